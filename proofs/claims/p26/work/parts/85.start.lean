theorem va_Xof {args : Array Value} {s : State} {tm : Term} {N : Nat} {f : Nat → Int32} (hN : N < 2 ^ 31) (harr : (Cond.arrayOf tm .int).before args s = true) (hlen : (Term.length tm).eval args s none [] s = some (.int (Int32.ofNat N))) (hel : ∀ j : Nat, j < N → (Term.elem tm (.int (Int32.ofNat j))).eval args s none [] s = some (.int (f j))) : ∃ t : Nat, tm.eval args s none [] s = some (.ref t) ∧ va_X t N f s s.heap ∧ t < s.heap.size := by
  obtain ⟨t, cell, ht, hat, hv⟩ := Term.length_spec hlen
  obtain ⟨hcell, hkn, -, -⟩ := State.arrayAt?_spec hat
  obtain ⟨hof, -⟩ := Cond.arrayOf_spec harr ht hcell
  have hsz : cell.slots.size < 2147483648 := by
    simp only [Term.eval, ht, hat, Option.bind_eq_bind, Option.bind_some] at hlen
    by_cases hlt : cell.slots.size < 2147483648
    · exact hlt
    · simp [hlt] at hlen
  have hs : cell.slots.size = N := by
    have h9 : Int32.ofNat N = cell.slots.size.toInt32 := Value.int.inj hv
    have h8 : Int32.ofNat N = Int32.ofNat cell.slots.size := h9
    have h7 := congrArg Int32.toInt h8
    rw [Int32.toInt_ofNat_of_lt hN, Int32.toInt_ofNat_of_lt hsz] at h7
    omega
  have key : ∀ j : Nat, j < N → cell.slots[j]? = some (.int (f j)) := by
    intro j hj
    obtain ⟨a, i, cell2, h1, h2, h3, h4, h5⟩ := Term.elem_spec (hel j hj)
    cases ht.symm.trans h1
    cases hat.symm.trans h3
    have hi : i = Int32.ofNat j := by
      have e : (Term.int (Int32.ofNat j)).eval args s none [] s = some (.int (Int32.ofNat j)) := rfl
      cases h2.symm.trans e
      rfl
    have hc : i.toNatClampNeg = j := by rw [hi]; exact Int32.toNatClampNeg_ofNat_of_lt (Nat.lt_trans hj hN)
    rw [hc] at h5
    exact h5
  exact ⟨t, ht, ⟨cell, hcell, hof, hkn, hs, key⟩, (Array.getElem?_eq_some_iff.mp hcell).1⟩
theorem l_prim {U : State} {A : Array Value} {ty : FieldType} (h : (Cond.arrayClass ty).before A U = true) : ∃ cA, ArrOfT U cA ty ∧ U.vm.findClass ("[" ++ ty.toString) = some cA := by
  obtain ⟨cA, kA, comp, h1, h2, h3⟩ := Cond.arrayClass_spec h
  exact ⟨cA, fun n z => ⟨fun k h => (by cases h), kA, h2, comp, h3⟩, h1⟩
theorem l_roll {U : State} {A : Array Value} {C : String} (h : (Cond.arrayOver (.object C)).before A U = true) : ∃ cA, ArrOfT U cA (.object C) ∧ va_RA U cA (.object C) := by
  obtain ⟨comp, cA, kA, h1, h2, h3, h4, h5⟩ := Cond.arrayOver_spec h
  exact ⟨cA, fun n z => ⟨fun k h => (by cases h), kA, h3, comp, h4⟩, kA, comp, h3, h4, h1, h5⟩
set_option maxHeartbeats 4000000 in
set_option maxRecDepth 100000 in
theorem l_known {s : State} {b : Nat} (hts : ∀ w ∈ lw_tbl, w.before #[Value.ref b] s = true) : ∃ (D : va_G) (y : Nat → ClassId), va_K D vwCl (jT y) s := by
  obtain ⟨c0, f0, hK0⟩ := u_known (C := RX0) (T := TX0) (N := 3) (n := 3) hts (fun w h9 => wsL_law_in w (inlX0 w h9)) (hts (.instantiable RX0 3) (List.mem_of_getElem? (i := 110) (by decide +kernel)))
  obtain ⟨c1, f1, hK1⟩ := u_known (C := RX1) (T := TX1) (N := 8) (n := 8) hts (fun w h9 => wsL_law_in w (inlX1 w h9)) (hts (.instantiable RX1 8) (List.mem_of_getElem? (i := 80) (by decide +kernel)))
  obtain ⟨c2, f2, hK2⟩ := u_known (C := RX2) (T := TX2) (N := 3) (n := 3) hts (fun w h9 => wsL_law_in w (inlX2 w h9)) (hts (.instantiable RX2 3) (List.mem_of_getElem? (i := 64) (by decide +kernel)))
  obtain ⟨c3, f3, hK3⟩ := u_known (C := RX3) (T := TX3) (N := 7) (n := 7) hts (fun w h9 => wsL_law_in w (inlX3 w h9)) (hts (.instantiable RX3 7) (List.mem_of_getElem? (i := 29) (by decide +kernel)))
  obtain ⟨c4, f4, hK4⟩ := u_known (C := RX4) (T := TX4) (N := 7) (n := 7) hts (fun w h9 => wsL_law_in w (inlX4 w h9)) (hts (.instantiable RX4 7) (List.mem_of_getElem? (i := 21) (by decide +kernel)))
  obtain ⟨y0, hy0, hz0⟩ := l_prim (hts (.arrayClass .int) (List.mem_of_getElem? (i := 61) (by decide +kernel)))
  obtain ⟨y1, hy1, hz1⟩ := l_prim (hts (.arrayClass .boolean) (List.mem_of_getElem? (i := 62) (by decide +kernel)))
  obtain ⟨y2, hy2, hz2⟩ := l_prim (hts (.arrayClass .char) (List.mem_of_getElem? (i := 108) (by decide +kernel)))
  obtain ⟨y3, hy3, hz3⟩ := l_roll (hts (.arrayOver (.object RX3)) (List.mem_of_getElem? (i := 116) (by decide +kernel)))
  refine ⟨(fun k => match k with
    | 0 => c0
    | 1 => c1
    | 2 => c2
    | 3 => c3
    | _ => c4, fun k => match k with
    | 0 => f0
    | 1 => f1
    | 2 => f2
    | 3 => f3
    | _ => f4), fun k => match k with
    | 0 => y0
    | 1 => y1
    | 2 => y2
    | _ => y3, ?_, ?_⟩
  · intro k q hq
    match k, hq with
    | 0, hq => cases hq; exact hK0
    | 1, hq => cases hq; exact hK1
    | 2, hq => cases hq; exact hK2
    | 3, hq => cases hq; exact hK3
    | 4, hq => cases hq; exact hK4
    | k + 5, hq => simp [vwCl] at hq
  · intro k q hq
    match k, hq with
    | 0, hq => cases hq; exact ⟨hy0, hz0⟩
    | 1, hq => cases hq; exact ⟨hy1, hz1⟩
    | 2, hq => cases hq; exact ⟨hy2, hz2⟩
    | 3, hq => cases hq; exact ⟨hy3, hz3⟩
    | k + 4, hq => simp [jT] at hq
set_option maxHeartbeats 4000000 in
set_option maxRecDepth 100000 in
theorem l_stat {s : State} {b : Nat} (hts : ∀ w ∈ lw_tbl, w.before #[Value.ref b] s = true) (hgv : (Jvm.Cond.and given_1 narrow_1).before #[Value.ref b] s = true) : ∃ z : Nat → Nat, jST z (lA s) s s.heap := by
  have hs := flat_of_before _ hgv
  have hini : (Cond.initialized "MusicHoles").before #[Value.ref b] s = true := hts (.initialized "MusicHoles") (List.mem_of_getElem? (i := 11) (by decide +kernel))
  have hA : ∀ a : Nat, a < s.heap.size → ¬ lA s a := fun a h9 => Nat.not_le.mpr h9
  obtain ⟨z0, ez0, hz0⟩ := va_Tof (ty := .int) (tm := .static "MusicHoles" "LEAST" "[I") (N := 4) (f := fun k => .int (jI (jL k))) (A := lA s) (by decide) (hs _ (by decide +kernel)) (va_eqt (z := 4) (hs _ (by decide +kernel))) (fun j hj => by
    match j, hj with
    | 0, _ => exact va_eqt (t := .elem (.static "MusicHoles" "LEAST" "[I") (.int 0)) (z := 1) (hs _ (by decide +kernel))
    | 1, _ => exact va_eqt (t := .elem (.static "MusicHoles" "LEAST" "[I") (.int 1)) (z := 1) (hs _ (by decide +kernel))
    | 2, _ => exact va_eqt (t := .elem (.static "MusicHoles" "LEAST" "[I") (.int 2)) (z := 0) (hs _ (by decide +kernel))
    | 3, _ => exact va_eqt (t := .elem (.static "MusicHoles" "LEAST" "[I") (.int 3)) (z := 2) (hs _ (by decide +kernel))
    | j + 4, hj => exact absurd hj (by omega)) hA
  have hv0 := va_Zof (A := lA s) (hts (.laysStatic "MusicHoles" "LEAST" "[I") (List.mem_of_getElem? (i := 158) (by decide +kernel))) hini ez0 hA
  obtain ⟨z1, ez1, hz1⟩ := va_Tof (ty := .int) (tm := .static "MusicHoles" "GREATEST" "[I") (N := 4) (f := fun k => .int (jI (jG k))) (A := lA s) (by decide) (hs _ (by decide +kernel)) (va_eqt (z := 4) (hs _ (by decide +kernel))) (fun j hj => by
    match j, hj with
    | 0, _ => exact va_eqt (t := .elem (.static "MusicHoles" "GREATEST" "[I") (.int 0)) (z := 9) (hs _ (by decide +kernel))
    | 1, _ => exact va_eqt (t := .elem (.static "MusicHoles" "GREATEST" "[I") (.int 1)) (z := 4) (hs _ (by decide +kernel))
    | 2, _ => exact va_eqt (t := .elem (.static "MusicHoles" "GREATEST" "[I") (.int 2)) (z := 4) (hs _ (by decide +kernel))
    | 3, _ => exact va_eqt (t := .elem (.static "MusicHoles" "GREATEST" "[I") (.int 3)) (z := 12) (hs _ (by decide +kernel))
    | j + 4, hj => exact absurd hj (by omega)) hA
  have hv1 := va_Zof (A := lA s) (hts (.laysStatic "MusicHoles" "GREATEST" "[I") (List.mem_of_getElem? (i := 160) (by decide +kernel))) hini ez1 hA
  obtain ⟨z2, ez2, hz2, hlt2⟩ := va_Xof (tm := .static "MusicHoles" "AT_FIRST" "[I") (N := 4) (f := fun k => jI (jF k)) (by decide) (hs _ (by decide +kernel)) (va_eqt (z := 4) (hs _ (by decide +kernel))) (fun j hj => by
    match j, hj with
    | 0, _ => exact va_eqt (t := .elem (.static "MusicHoles" "AT_FIRST" "[I") (.int 0)) (z := 3) (hs _ (by decide +kernel))
    | 1, _ => exact va_eqt (t := .elem (.static "MusicHoles" "AT_FIRST" "[I") (.int 1)) (z := 1) (hs _ (by decide +kernel))
    | 2, _ => exact va_eqt (t := .elem (.static "MusicHoles" "AT_FIRST" "[I") (.int 2)) (z := 1) (hs _ (by decide +kernel))
    | 3, _ => exact va_eqt (t := .elem (.static "MusicHoles" "AT_FIRST" "[I") (.int 3)) (z := 4) (hs _ (by decide +kernel))
    | j + 4, hj => exact absurd hj (by omega))
  have hv2 := va_Zof (A := lA s) (hts (.laysStatic "MusicHoles" "AT_FIRST" "[I") (List.mem_of_getElem? (i := 35) (by decide +kernel))) hini ez2 hA
  exact ⟨fun k => match k with
    | 0 => z0
    | 1 => z1
    | _ => z2, ⟨hv0, hz0⟩, ⟨hv1, hz1⟩, hv2, hz2, hA _ hlt2⟩
set_option maxHeartbeats 4000000 in
set_option maxRecDepth 100000 in
theorem l_nest {s : State} {b : Nat} (hts : ∀ w ∈ lw_tbl, w.before #[Value.ref b] s = true) : jNW s ∧ jX s :=
  ⟨⟨va_Nw.of rfl (hts (.methodLinkNest "MusicHoles" 21 yX2_init "MusicHoles") (List.mem_of_getElem? (i := 65) (by decide +kernel))), va_Nw.of rfl (hts (.methodLinkNest "MusicHoles" 28 yX1_init "MusicHoles") (List.mem_of_getElem? (i := 81) (by decide +kernel))), va_Nw.of rfl (hts (.methodLinkNest "MusicHoles$Paper" 63 yX4_isTrack "MusicHoles") (List.mem_of_getElem? (i := 394) (by decide +kernel))), va_Nw.of rfl (hts (.methodLinkNest "MusicHoles$Paper" 66 yX4_isStep "MusicHoles") (List.mem_of_getElem? (i := 395) (by decide +kernel))), va_Nw.of rfl (hts (.methodLinkNest "MusicHoles$Roll" 48 yX4_isIn "MusicHoles") (List.mem_of_getElem? (i := 165) (by decide +kernel)))⟩, va_Nw.of rfl (hts (.fieldLinkNest "MusicHoles$Roll" 31 "MusicHoles" "AT_FIRST" "[I" "MusicHoles") (List.mem_of_getElem? (i := 34) (by decide +kernel))), va_AO.of (hts (.arrayOver (.object RX3)) (List.mem_of_getElem? (i := 116) (by decide +kernel)))⟩
theorem start_state (xc : Int → Int) : ∃ r : (Int → Int) × (Int → Int) × (Int → Int) × (Int → Int) × (Int → Int) × (Int → Int) × Int × (Int → Int) × (Int → Int) × (Int → Int) × (Int → Int) × (Int → Int) × (Int → Int) × Int × (Int → Int) × Int × (Int → Int) × Int × Int × (Int → Int → Int) × (Int → Int → Int) × (Int → Int → Int) × (Int → Int → Int) × (Int → Int → Int) × (Int → Int → Int) × (Int → Int) × (Int → Int) × (Int → Int) × (Int → Int), f_L_law 3000 jFI (fun _ => 0) (fun _ => 0) (fun _ => 0) (fun _ => 0) (fun _ => 0) 0 jFI (fun _ => 0) (fun _ => 0) (fun _ => 0) (fun _ => 0) (fun _ => 0) 0 (fun _ => 0) 0 (fun _ => 0) 0 0 0 (fun _ => jFI) (fun _ _ => 0) (fun _ _ => 0) (fun _ _ => 0) (fun _ _ => 0) (fun _ _ => 0) (fun _ => 0) (uI (uI (uI (uI (fun _ => 0) 0 3) 1 1) 2 1) 3 4) (fun _ => 0) (fun _ => 0) xc 0 = some (1, r) := by
  have e0 : jFI 0 = 3 := rfl
  have e1 : jFI 1 = 1 := rfl
  have e2 : jFI 2 = 1 := rfl
  have e3 : jFI 3 = 4 := rfl
  refine law_good ⟨⟨⟨rfl, rfl, rfl, rfl⟩, rfl, fun k k0 k1 => ?_⟩, ⟨⟨by omega, by omega, fun k k0 k1 => ?_⟩, fun k k0 k1 => Or.inl rfl, fun j k j0 jk k1 => ?_, fun j k j0 jk k1 => ?_⟩, ?_, by omega, fun k k0 k1 => ?_⟩ ⟨by omega, by omega, by omega⟩ (fun k k0 k1 => Or.inl rfl)
  · exact absurd k1 (by omega)
  · exact absurd k1 (by omega)
  · exact absurd k1 (by omega)
  · exact absurd k1 (by omega)
  · unfold SE
    rw [e0, e1, e2, e3]
    omega
  · exact absurd k1 (by omega)
set_option maxHeartbeats 16000000 in
set_option maxRecDepth 100000 in
theorem whole_start {p : Program} {e : Env} {s : State} {m : MethodId} {below : List Frame} {meth : Method} {c : Code} (l : Launch) (hflags : l.flags = flags0) {b L : Nat} {xs : Nat → Int32} (hL : L ≤ 260) (C0 : lw_At p s m meth c b L xs) : W p l e room_1 s m #[Value.ref b] below meth c s.heap [] 0 0 (lw_Z below #[Value.ref b] s) (entryFrame m ([Value.ref b] : List Value).toArray 18) := by
  obtain ⟨hx, hb, hr, hml, hown, hts, hX, hbl, hlocks, hgv⟩ := id C0
  have hts9 : ∀ w ∈ wsL_law, w.before #[Value.ref b] s = true := fun w h9 => hts w (wsL_law_in w h9)
  obtain ⟨D, y, hK⟩ := l_known hts
  obtain ⟨z, hZ⟩ := l_stat hts hgv
  obtain ⟨hN, hX2⟩ := l_nest hts
  have hM : jM D y z (lA s) s := ⟨hK, hN, hZ⟩
  have hS : va_S (lA s) s.heap s.heap [] := va_S.rf
  have hP : va_P D vwCl ([] : List va_W).flatten s.heap := fun k q h => by simp at h
  have hD : va_D (lA s) ([] : List va_W).flatten := ⟨fun i j p q h => by simp at h, fun k q h => by simp at h⟩
  have hl := lv_entry ([.ref b]) (n := 18) (Nat.le_of_ble_eq_true rfl)
  rw [lg_entry_eq]
  generalize (lg_sl ([.ref b]) ++ List.replicate (18 - (lg_sl ([.ref b])).length) Slot.unset).toArray = ls at hl ⊢
  have hl : lv_has ls 18 [(0, .ref b)] := hl
  refine jx_new (ci := 4) (fs := [.null, .null, .null, .null, .null, .null, .null]) (C := RX4) (T := TX4) (N := 7) hx hb hts9 inlX4 tyX4 tyX4_ok hown (hts9 (.classLink RL 33 RX4) (by decide +kernel)) (hts9 (.instantiable RX4 7) (by decide +kernel)) (hts9 (.initialized RX4) (by decide +kernel)) hM hP hD hS (fun _ h9 => h9) rfl (fun j hj => by rcases (show j = 0 ∨ j = 1 ∨ j = 2 ∨ j = 3 ∨ j = 4 ∨ j = 5 ∨ j = 6 by omega) with rfl | rfl | rfl | rfl | rfl | rfl | rfl <;> first | exact jdv_int | rfl) (Nat.le_of_ble_eq_true rfl) (Nat.le_of_ble_eq_true rfl) dL_law_0 (fun q0 H hP hD hS => ?_)
  have hP : va_P D vwCl (([] : List va_W) ++ ([[(q0, .inr (4, [.null, .null, .null, .null, .null, .null, .null]))]] : List va_W)).flatten H := hP
  have hD : va_D (lA s) (([] : List va_W) ++ ([[(q0, .inr (4, [.null, .null, .null, .null, .null, .null, .null]))]] : List va_W)).flatten := hD
  refine lv_dup hx hb dL_law_3 rfl ?_
  refine jx_init (cd := cL_law) (nL := 18) (index := 0) (Ts := []) (wsc := []) (own := "") (ym := yX4_init) (rm := rm_X4_init) (wr := ([] : List va_W)) (c0 := [(q0, .inr (4, [.null, .null, .null, .null, .null, .null, .null]))]) (Wf := wf_MH y) (b := q0) hM hX2 hP hD hS (fun _ h9 => h9) (List.Perm.refl _) (fun hp9 => va_runI (As := []) (rest := [.ref q0]) ⟨hx, hb, hml.trans hl.1.symm, hown, hts9⟩ (c_X4_init l D y z q0 H.size) (cwI 0 hts9 gL_law_X4_init rfl rfl rfl (hts9 (.initialized RX4) (by decide +kernel)) (hts9 (.methodLink RL 61 yX4_init) (by decide +kernel)) (hts9 (.instanceMethod yX4_init) (by decide +kernel)) rfl (by decide +kernel) ⟨Nat.le_of_ble_eq_true rfl, Nat.le_of_ble_eq_true rfl⟩) hp9 rfl rfl rfl rfl (lv_room (Nat.le_of_ble_eq_true rfl)) dL_law_4 ⟨Nat.le_of_ble_eq_true rfl, Nat.le_of_ble_eq_true rfl⟩) (fun a9 H locs e0 hP hD hS => ?_)
  rw [← e0]
  refine lv_astore_n (lv' := [(1, .ref (a9 0 0)), (0, .ref b)]) hx hb dL_law_7 rfl hl (by decide) rfl (fun ls hl => ?_)
  have hP : va_P D vwCl (wf_MH y a9).flatten H := hP
  have hD : va_D (lA s) (wf_MH y a9).flatten := hD
  refine lv_iconst (v := jI 5) hx hb dL_law_8 (by decide +kernel) ?_
  refine jx_newa (atype := .int) (ty := .int) (N := 5) hx hb (hts9 (.arrayClass .int) (by decide +kernel)) rfl hM hP hD hS (fun _ h9 => h9) 0 (by decide) rfl (fun h9 => h9) jdv_int (by decide +kernel) (by decide +kernel) (Nat.le_of_ble_eq_true rfl) (Nat.le_of_ble_eq_true rfl) (Nat.le_of_ble_eq_true rfl) dL_law_9 (fun _ h9 => h9) (fun q1 H hP hD hS => ?_)
  have hP : va_P D vwCl (wf_MH y a9 ++ ([wAr y q1 5 (fun _ => 0)] : List va_W)).flatten H := hP
  have hD : va_D (lA s) (wf_MH y a9 ++ ([wAr y q1 5 (fun _ => 0)] : List va_W)).flatten := hD
  refine lv_astore_n (lv' := [(2, .ref q1), (1, .ref (a9 0 0)), (0, .ref b)]) hx hb dL_law_11 rfl hl (by decide) rfl (fun ls hl => ?_)
  refine lv_bipush (v := jI 64) hx hb dL_law_12 (by decide +kernel) ?_
  refine jx_newa (atype := .int) (ty := .int) (N := 64) hx hb (hts9 (.arrayClass .int) (by decide +kernel)) rfl hM hP hD hS (fun _ h9 => h9) 0 (by decide) rfl (fun h9 => h9) jdv_int (by decide +kernel) (by decide +kernel) (Nat.le_of_ble_eq_true rfl) (Nat.le_of_ble_eq_true rfl) (Nat.le_of_ble_eq_true rfl) dL_law_14 (fun _ h9 => h9) (fun q2 H hP hD hS => ?_)
  have hP : va_P D vwCl (wf_MH y a9 ++ ([wAr y q1 5 (fun _ => 0), wAr y q2 64 (fun _ => 0)] : List va_W)).flatten H := hP
  have hD : va_D (lA s) (wf_MH y a9 ++ ([wAr y q1 5 (fun _ => 0), wAr y q2 64 (fun _ => 0)] : List va_W)).flatten := hD
  refine lv_astore_n (lv' := [(3, .ref q2), (2, .ref q1), (1, .ref (a9 0 0)), (0, .ref b)]) hx hb dL_law_16 rfl hl (by decide) rfl (fun ls hl => ?_)
  refine lv_bipush (v := jI 64) hx hb dL_law_17 (by decide +kernel) ?_
  refine jx_newa (atype := .int) (ty := .int) (N := 64) hx hb (hts9 (.arrayClass .int) (by decide +kernel)) rfl hM hP hD hS (fun _ h9 => h9) 0 (by decide) rfl (fun h9 => h9) jdv_int (by decide +kernel) (by decide +kernel) (Nat.le_of_ble_eq_true rfl) (Nat.le_of_ble_eq_true rfl) (Nat.le_of_ble_eq_true rfl) dL_law_19 (fun _ h9 => h9) (fun q3 H hP hD hS => ?_)
  have hP : va_P D vwCl (wf_MH y a9 ++ ([wAr y q1 5 (fun _ => 0), wAr y q2 64 (fun _ => 0), wAr y q3 64 (fun _ => 0)] : List va_W)).flatten H := hP
  have hD : va_D (lA s) (wf_MH y a9 ++ ([wAr y q1 5 (fun _ => 0), wAr y q2 64 (fun _ => 0), wAr y q3 64 (fun _ => 0)] : List va_W)).flatten := hD
  refine lv_astore (lv' := [(4, .ref q3), (3, .ref q2), (2, .ref q1), (1, .ref (a9 0 0)), (0, .ref b)]) hx hb dL_law_21 hl (by decide) rfl (fun ls hl => ?_)
  refine lv_aload_n hx hb dL_law_23 rfl (lv_at hl 2 rfl) ?_
  refine lv_iconst (v := jI 0) hx hb dL_law_24 (by decide +kernel) ?_
  refine lv_iconst (v := jI 3) hx hb dL_law_25 (by decide +kernel) ?_
  refine jx_iast (X := some 0) (r := (0 : Nat)) hx hb hM hP hD hS 84 0 rfl rfl rfl (Nat.le_of_ble_eq_true rfl) (by decide +kernel) dL_law_26 (fun H locs _ hP hD hS => ?_)
  have hP : va_P D vwCl (wf_MH y a9 ++ ([wAr y q1 5 (uI (fun _ => 0) 0 3), wAr y q2 64 (fun _ => 0), wAr y q3 64 (fun _ => 0)] : List va_W)).flatten H := hP
  have hD : va_D (lA s) (wf_MH y a9 ++ ([wAr y q1 5 (uI (fun _ => 0) 0 3), wAr y q2 64 (fun _ => 0), wAr y q3 64 (fun _ => 0)] : List va_W)).flatten := hD
  refine lv_aload_n hx hb dL_law_27 rfl (lv_at hl 2 rfl) ?_
  refine lv_iconst (v := jI 1) hx hb dL_law_28 (by decide +kernel) ?_
  refine lv_iconst (v := jI 1) hx hb dL_law_29 (by decide +kernel) ?_
  refine jx_iast (X := some 0) (r := (0 : Nat)) hx hb hM hP hD hS 84 0 rfl rfl rfl (Nat.le_of_ble_eq_true rfl) (by decide +kernel) dL_law_30 (fun H locs _ hP hD hS => ?_)
  have hP : va_P D vwCl (wf_MH y a9 ++ ([wAr y q1 5 (uI (uI (fun _ => 0) 0 3) 1 1), wAr y q2 64 (fun _ => 0), wAr y q3 64 (fun _ => 0)] : List va_W)).flatten H := hP
  have hD : va_D (lA s) (wf_MH y a9 ++ ([wAr y q1 5 (uI (uI (fun _ => 0) 0 3) 1 1), wAr y q2 64 (fun _ => 0), wAr y q3 64 (fun _ => 0)] : List va_W)).flatten := hD
  refine lv_aload_n hx hb dL_law_31 rfl (lv_at hl 2 rfl) ?_
  refine lv_iconst (v := jI 2) hx hb dL_law_32 (by decide +kernel) ?_
  refine lv_iconst (v := jI 1) hx hb dL_law_33 (by decide +kernel) ?_
  refine jx_iast (X := some 0) (r := (0 : Nat)) hx hb hM hP hD hS 84 0 rfl rfl rfl (Nat.le_of_ble_eq_true rfl) (by decide +kernel) dL_law_34 (fun H locs _ hP hD hS => ?_)
  have hP : va_P D vwCl (wf_MH y a9 ++ ([wAr y q1 5 (uI (uI (uI (fun _ => 0) 0 3) 1 1) 2 1), wAr y q2 64 (fun _ => 0), wAr y q3 64 (fun _ => 0)] : List va_W)).flatten H := hP
  have hD : va_D (lA s) (wf_MH y a9 ++ ([wAr y q1 5 (uI (uI (uI (fun _ => 0) 0 3) 1 1) 2 1), wAr y q2 64 (fun _ => 0), wAr y q3 64 (fun _ => 0)] : List va_W)).flatten := hD
  refine lv_aload_n hx hb dL_law_35 rfl (lv_at hl 2 rfl) ?_
  refine lv_iconst (v := jI 3) hx hb dL_law_36 (by decide +kernel) ?_
  refine lv_iconst (v := jI 4) hx hb dL_law_37 (by decide +kernel) ?_
  refine jx_iast (X := some 0) (r := (0 : Nat)) hx hb hM hP hD hS 84 0 rfl rfl rfl (Nat.le_of_ble_eq_true rfl) (by decide +kernel) dL_law_38 (fun H locs _ hP hD hS => ?_)
  have hP : va_P D vwCl (wf_MH y a9 ++ ([wAr y q1 5 (uI (uI (uI (uI (fun _ => 0) 0 3) 1 1) 2 1) 3 4), wAr y q2 64 (fun _ => 0), wAr y q3 64 (fun _ => 0)] : List va_W)).flatten H := hP
  have hD : va_D (lA s) (wf_MH y a9 ++ ([wAr y q1 5 (uI (uI (uI (uI (fun _ => 0) 0 3) 1 1) 2 1) 3 4), wAr y q2 64 (fun _ => 0), wAr y q3 64 (fun _ => 0)] : List va_W)).flatten := hD
  refine lv_iconst (v := jI 0) hx hb dL_law_39 (by decide +kernel) ?_
  refine lv_istore (lv' := [(5, .int (jI 0)), (4, .ref q3), (3, .ref q2), (2, .ref q1), (1, .ref (a9 0 0)), (0, .ref b)]) hx hb dL_law_40 hl (by decide) rfl (fun ls hl => ?_)
  refine W.widen (k := 600000) (n := 7302250) (Nat.le_of_ble_eq_true rfl) (Nat.le_of_ble_eq_true rfl) ?_
  obtain ⟨⟨n0, n1, n2, n3, n4, n5, n6, n7, n8, n9, n10, n11, n12, n13, n14, n15, n16, n17, n18, n19, n20, n21, n22, n23, n24, n25, n26, n27, n28⟩, hgood⟩ := start_state (cellV xs L)
  refine c_L_law l D y z (a9 0) (a9 1) (a9 2) (a9 3) (a9 4) (a9 5) q1 q2 q3 (fun k => a9 (6 + k)) (fun k => a9 (12 + k)) (fun _ => 0) jFI (fun _ => 0) (fun _ => 0) (fun _ => 0) (fun _ => 0) (fun _ => 0) 0 jFI (fun _ => 0) (fun _ => 0) (fun _ => 0) (fun _ => 0) (fun _ => 0) 0 (fun _ => 0) 0 (fun _ => 0) (fun _ => 0) 0 0 (fun _ => 0) (fun _ => 0) (fun _ => 0) (fun _ => 0) 0 0 0 (fun _ => jFI) (fun _ _ => 0) (fun _ _ => 0) (fun _ _ => 0) (fun _ _ => 0) (fun _ _ => 0) (fun _ => 0) (fun _ => jFI) (fun _ _ => 0) (fun _ _ => 0) (fun _ _ => 0) (fun _ _ => 0) (fun _ _ => 0) (fun _ => 0) (uI (uI (uI (uI (fun _ => 0) 0 3) 1 1) 2 1) 3 4) (fun _ => 0) (fun _ => 0) (cellV xs L) 0 3000 1 n0 n1 n2 n3 n4 n5 n6 n7 n8 n9 n10 n11 n12 n13 n14 n15 n16 n17 n18 n19 n20 n21 n22 n23 n24 n25 n26 n27 n28 hgood rfl ⟨Nat.le_refl _, Nat.le_refl _⟩ hx hb hr hlocks hml hown hts9 (fun _ h9 => h9) hM (fun i0 i1 hP hD hS hz hr hdg k => cell_row hL C0 i0 i1 hP hD hS hz hr hdg k) (fun v9 m0 m1 m2 m3 m4 m5 m6 m7 m8 m9 m10 m11 m12 m13 m14 m15 m16 m17 m18 m19 m20 m21 m22 m23 m24 m25 m26 m27 m28 H locs pc ls h9 hz hdg hP hD hS => ?_) H locs ls hP hD hS (lv_sub hl [5, 4, 3, 2, 1, 0] rfl)
  have e9 : v9 = 1 := congrArg (fun v : Option (Int × _) => match v with | some (a, _) => a | none => 0) h9
  subst e9
  rw [show jI 1 = 1 from by decide +kernel]
  exact va_forget (fun q hq => hS.2.2 q hq) (lw_ret hx hb hr hlocks hdg)
