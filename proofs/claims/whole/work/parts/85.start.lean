section L85
variable {p : Program} {l : Launch} {e : Env} {s : State} {m : MethodId} {below : List Frame} {meth : Method} {c : Code} {b L : Nat} {xs : Nat → Int32} {D : va_G} {y : Nat → ClassId} {z : Nat → Nat} 
theorem law_loop {ha hb' : Nat} (C0 : lw_At p s m meth c b L xs) (hM : jM D y z (lA s) s) (hL : L ≤ 2048) : ∀ (n i : Nat) (cs ms : List va_W) (H : Heap) (locs : List Loc) (ls : Array Slot), L + 4 ≤ i + n → i ≤ L + 4 → LREL y ha hb' cs ms → lv_has ls 4 [(3, .int (jI (i : Int))), (2, .ref hb'), (1, .ref ha), (0, .ref b)] → va_P D vwCl (cs ++ ms).flatten H → va_D (lA s) (cs ++ ms).flatten → va_S (lA s) s.heap H locs → W p l e room_1 s m #[Value.ref b] below meth c H locs 600000 7302250 (lw_Z below #[Value.ref b] s) (F0 m 18 ls []) := by
  obtain ⟨hx, hb, hr, hml, hown, hts, hX, hbl, hlocks, hgv⟩ := id C0
  have hbA : ¬ lA s b := Nat.not_le.mpr hbl
  intro n
  induction n with
  | zero =>
    intro i cs ms H locs ls h1 h2 h hl hP hD hS
    refine lv_iload_n hx hb dL_law_18 rfl (lv_at hl 0 rfl) ?_
    refine lv_aload_n hx hb dL_law_19 rfl (lv_at hl 3 rfl) ?_
    refine va_slen hx hb hX hbl hbA hS dL_law_20 ?_
    refine lv_iconst (v := jI 4) hx hb dL_law_21 rfl ?_
    refine lv_isub hx hb dL_law_22 ?_
    rw [show Int32.ofNat L - jI 4 = jI ((L : Int) - 4) from jI_sub (L : Int) 4]
    refine lv_icmp_gt (tgt := 821) hx hb dL_law_23 (by decide) (fun _ => ?_) (fun q => absurd ((jI_lt ⟨by omega, by omega⟩ ⟨by omega, by omega⟩).mpr (by omega)) q)
    refine lv_iconst (v := 1) hx hb dL_law_821 rfl ?_
    exact va_forget (fun q hq => hS.2.2 q hq) (lw_ret hx hb hr hlocks dL_law_822)
  | succ n ih =>
    intro i cs ms H locs ls h1 h2 h hl hP hD hS
    refine lv_iload_n hx hb dL_law_18 rfl (lv_at hl 0 rfl) ?_
    refine lv_aload_n hx hb dL_law_19 rfl (lv_at hl 3 rfl) ?_
    refine va_slen hx hb hX hbl hbA hS dL_law_20 ?_
    refine lv_iconst (v := jI 4) hx hb dL_law_21 rfl ?_
    refine lv_isub hx hb dL_law_22 ?_
    rw [show Int32.ofNat L - jI 4 = jI ((L : Int) - 4) from jI_sub (L : Int) 4]
    refine lv_icmp_gt (tgt := 821) hx hb dL_law_23 (by decide) (fun _ => ?_) (fun q => ?_)
    · refine lv_iconst (v := 1) hx hb dL_law_821 rfl ?_
      exact va_forget (fun q hq => hS.2.2 q hq) (lw_ret hx hb hr hlocks dL_law_822)
    have hi : i + 3 < L := by
      have : ¬ (L : Int) - 4 < (i : Int) := fun z9 => q ((jI_lt ⟨by omega, by omega⟩ ⟨by omega, by omega⟩).mpr z9)
      omega
    have k : ∀ cs1 ms1 H1 locs1, LREL y ha hb' cs1 ms1 → va_P D vwCl (cs1 ++ ms1).flatten H1 → va_D (lA s) (cs1 ++ ms1).flatten → va_S (lA s) s.heap H1 locs1 → W p l e room_1 s m #[Value.ref b] below meth c H1 locs1 600000 7302250 (lw_Z below #[Value.ref b] s) (F0 m 815 ls []) := by
      intro cs1 ms1 H1 locs1 r1 r2 r3 r4
      refine lv_iinc (v := jI ((i + 4 : Nat) : Int)) (lv' := [(3, .int (jI ((i + 4 : Nat) : Int))), (2, .ref hb'), (1, .ref ha), (0, .ref b)]) hx hb dL_law_815 hl (k := 0) rfl (by show jI (i : Int) + jI 4 = _; rw [jI_add]; congr 1) (by decide) rfl (fun ls hl => ?_)
      refine lv_goto (tgt := 18) hx hb dL_law_818 (by decide) ?_
      exact ih (i + 4) cs1 ms1 H1 locs1 ls (by omega) (by omega) r1 hl r2 r3 r4
    refine lv_aload_n hx hb dL_law_26 rfl (lv_at hl 3 rfl) ?_
    refine lv_iload_n hx hb dL_law_27 rfl (lv_at hl 0 rfl) ?_
    refine va_sld hx hb hX hbl hbA hS (jI_in (by omega) (by omega) (by omega)) dL_law_28 ?_
    obtain ⟨x0, r0, e0⟩ : ∃ x : Int, rg x ∧ xs (jI (i : Int)).toNatClampNeg = jI x := ⟨_, rg_of _, (jI_of _).symm⟩
    rw [e0]
    refine lv_bipush (v := jI 31) hx hb dL_law_29 (by decide) ?_
    refine jx_iand hx hb dL_law_31 ?_
    have hu : rg (jand x0 31) := rg_of _
    generalize jand x0 31 = u at hu ⊢
    by_cases u0 : u = 0
    · exact jx_tabI (tgt := 140) hx hb hu dL_law_32 0 u0 (by decide) (by decide) rfl (by decide) (la_set C0 hM hL hi h hl hP hD hS k)
    by_cases u1 : u = 1
    · exact jx_tabI (tgt := 173) hx hb hu dL_law_32 1 u1 (by decide) (by decide) rfl (by decide) (la_note C0 hM hL hi h hl hP hD hS k)
    by_cases u2 : u = 2
    · exact jx_tabI (tgt := 216) hx hb hu dL_law_32 2 u2 (by decide) (by decide) rfl (by decide) (la_drop C0 hM hL hi h hl hP hD hS k)
    by_cases u3 : u = 3
    · exact jx_tabI (tgt := 239) hx hb hu dL_law_32 3 u3 (by decide) (by decide) rfl (by decide) (la_shift C0 hM hL hi h hl hP hD hS k)
    by_cases u4 : u = 4
    · exact jx_tabI (tgt := 272) hx hb hu dL_law_32 4 u4 (by decide) (by decide) rfl (by decide) (la_accent C0 hM hL hi h hl hP hD hS k)
    by_cases u5 : u = 5
    · exact jx_tabI (tgt := 321) hx hb hu dL_law_32 5 u5 (by decide) (by decide) rfl (by decide) (la_insert C0 hM hL hi h hl hP hD hS k)
    by_cases u6 : u = 6
    · exact jx_tabI (tgt := 354) hx hb hu dL_law_32 6 u6 (by decide) (by decide) rfl (by decide) (la_cut C0 hM hL hi h hl hP hD hS k)
    by_cases u7 : u = 7
    · exact jx_tabI (tgt := 387) hx hb hu dL_law_32 7 u7 (by decide) (by decide) rfl (by decide) (la_copy C0 hM hL hi h hl hP hD hS k)
    by_cases u8 : u = 8
    · exact jx_tabI (tgt := 430) hx hb hu dL_law_32 8 u8 (by decide) (by decide) rfl (by decide) (la_read C0 hM hL hi h hl hP hD hS k)
    by_cases u9 : u = 9
    · exact jx_tabI (tgt := 443) hx hb hu dL_law_32 9 u9 (by decide) (by decide) rfl (by decide) (la_of C0 hM hL hi h hl hP hD hS k)
    by_cases u10 : u = 10
    · exact jx_tabI (tgt := 476) hx hb hu dL_law_32 10 u10 (by decide) (by decide) rfl (by decide) (la_at C0 hM hL hi h hl hP hD hS k)
    by_cases u11 : u = 11
    · exact jx_tabI (tgt := 509) hx hb hu dL_law_32 11 u11 (by decide) (by decide) rfl (by decide) (la_sound C0 hM hL hi h hl hP hD hS k)
    by_cases u12 : u = 12
    · exact jx_tabI (tgt := 552) hx hb hu dL_law_32 12 u12 (by decide) (by decide) rfl (by decide) (la_count C0 hM hL hi h hl hP hD hS k)
    by_cases u13 : u = 13
    · exact jx_tabI (tgt := 575) hx hb hu dL_law_32 13 u13 (by decide) (by decide) rfl (by decide) (la_bestShift C0 hM hL hi h hl hP hD hS k)
    by_cases u14 : u = 14
    · exact jx_tabI (tgt := 608) hx hb hu dL_law_32 14 u14 (by decide) (by decide) rfl (by decide) (la_greatestRun C0 hM hL hi h hl hP hD hS k)
    by_cases u15 : u = 15
    · exact jx_tabI (tgt := 621) hx hb hu dL_law_32 15 u15 (by decide) (by decide) rfl (by decide) (la_swallowed C0 hM hL hi h hl hP hD hS k)
    by_cases u16 : u = 16
    · exact jx_tabI (tgt := 644) hx hb hu dL_law_32 16 u16 (by decide) (by decide) rfl (by decide) (la_freeGoal C0 hM hL hi h hl hP hD hS k)
    by_cases u17 : u = 17
    · exact jx_tabI (tgt := 677) hx hb hu dL_law_32 17 u17 (by decide) (by decide) rfl (by decide) (la_put C0 hM hL hi h hl hP hD hS k)
    by_cases u18 : u = 18
    · exact jx_tabI (tgt := 730) hx hb hu dL_law_32 18 u18 (by decide) (by decide) rfl (by decide) (la_wipe C0 hM hL hi h hl hP hD hS k)
    by_cases u19 : u = 19
    · exact jx_tabI (tgt := 743) hx hb hu dL_law_32 19 u19 (by decide) (by decide) rfl (by decide) (la_fault C0 hM hL hi h hl hP hD hS k)
    by_cases u20 : u = 20
    · exact jx_tabI (tgt := 756) hx hb hu dL_law_32 20 u20 (by decide) (by decide) rfl (by decide) (la_undo C0 hM hL hi h hl hP hD hS k)
    by_cases u21 : u = 21
    · exact jx_tabI (tgt := 769) hx hb hu dL_law_32 21 u21 (by decide) (by decide) rfl (by decide) (la_save C0 hM hL hi h hl hP hD hS k)
    by_cases u22 : u = 22
    · exact jx_tabI (tgt := 792) hx hb hu dL_law_32 22 u22 (by decide) (by decide) rfl (by decide) (la_restore C0 hM hL hi h hl hP hD hS k)
    exact jx_tabO (tgt := 815) hx hb hu dL_law_32 (by omega) (by decide) (k cs ms H locs h hP hD hS)
end L85
theorem va_Xof {args : Array Value} {s : State} {tm : Term} {N : Nat} {f : Nat → Int32} (hN : N < 2 ^ 31) (harr : (Cond.arrayOf tm .int).before args s = true) (hlen : (Term.length tm).eval args s none [] s = some (.int (Int32.ofNat N))) (hel : ∀ j : Nat, j < N → (Term.elem tm (.int (Int32.ofNat j))).eval args s none [] s = some (.int (f j))) : ∃ t : Nat, tm.eval args s none [] s = some (.ref t) ∧ va_X t N f s s.heap ∧ t < s.heap.size := by
  obtain ⟨t, cell, ht, hat, hv⟩ := Term.length_spec hlen
  obtain ⟨hcell, hkn, -, -⟩ := State.arrayAt?_spec hat
  obtain ⟨hof, -⟩ := Cond.arrayOf_spec harr ht hcell
  have hsz : cell.slots.size < 2147483648 := by
    simp only [Term.eval, ht, hat, Option.bind_eq_bind, Option.bind_some] at hlen
    by_cases hlt : cell.slots.size < 2147483648
    · exact hlt
    · simp [hlt] at hlen
  have hs : cell.slots.size = N := by
    have h9 : Int32.ofNat N = cell.slots.size.toInt32 := Value.int.inj hv
    have h8 : Int32.ofNat N = Int32.ofNat cell.slots.size := h9
    have h7 := congrArg Int32.toInt h8
    rw [Int32.toInt_ofNat_of_lt hN, Int32.toInt_ofNat_of_lt hsz] at h7
    omega
  have key : ∀ j : Nat, j < N → cell.slots[j]? = some (.int (f j)) := by
    intro j hj
    obtain ⟨a, i, cell2, h1, h2, h3, h4, h5⟩ := Term.elem_spec (hel j hj)
    cases ht.symm.trans h1
    cases hat.symm.trans h3
    have hi : i = Int32.ofNat j := by
      have e : (Term.int (Int32.ofNat j)).eval args s none [] s = some (.int (Int32.ofNat j)) := rfl
      cases h2.symm.trans e
      rfl
    have hc : i.toNatClampNeg = j := by rw [hi]; exact Int32.toNatClampNeg_ofNat_of_lt (Nat.lt_trans hj hN)
    rw [hc] at h5
    exact h5
  exact ⟨t, ht, ⟨cell, hcell, hof, hkn, hs, key⟩, (Array.getElem?_eq_some_iff.mp hcell).1⟩
theorem l_prim {U : State} {A : Array Value} {ty : FieldType} (h : (Cond.arrayClass ty).before A U = true) : ∃ cA, ArrOfT U cA ty ∧ U.vm.findClass ("[" ++ ty.toString) = some cA := by
  obtain ⟨cA, kA, comp, h1, h2, h3⟩ := Cond.arrayClass_spec h
  exact ⟨cA, fun n z => ⟨fun k h => (by cases h), kA, h2, comp, h3⟩, h1⟩
theorem l_roll {U : State} {A : Array Value} {C : String} (h : (Cond.arrayOver (.object C)).before A U = true) : ∃ cA, ArrOfT U cA (.object C) ∧ va_RA U cA (.object C) := by
  obtain ⟨comp, cA, kA, h1, h2, h3, h4, h5⟩ := Cond.arrayOver_spec h
  exact ⟨cA, fun n z => ⟨fun k h => (by cases h), kA, h3, comp, h4⟩, kA, comp, h3, h4, h1, h5⟩
set_option maxHeartbeats 4000000 in
set_option maxRecDepth 100000 in
theorem l_known {s : State} {b : Nat} (hts : ∀ w ∈ lw_tbl, w.before #[Value.ref b] s = true) : ∃ (D : va_G) (y : Nat → ClassId), va_K D vwCl (jT y) s := by
  obtain ⟨c0, f0, hK0⟩ := u_known (C := RX0) (T := TX0) (N := 3) (n := 3) hts (fun w h9 => wsL_law_in w (inlX0 w h9)) (hts (.instantiable RX0 3) (List.mem_of_getElem? (i := 159) (by decide +kernel)))
  obtain ⟨c1, f1, hK1⟩ := u_known (C := RX1) (T := TX1) (N := 8) (n := 8) hts (fun w h9 => wsL_law_in w (inlX1 w h9)) (hts (.instantiable RX1 8) (List.mem_of_getElem? (i := 127) (by decide +kernel)))
  obtain ⟨c2, f2, hK2⟩ := u_known (C := RX2) (T := TX2) (N := 3) (n := 3) hts (fun w h9 => wsL_law_in w (inlX2 w h9)) (hts (.instantiable RX2 3) (List.mem_of_getElem? (i := 111) (by decide +kernel)))
  obtain ⟨c3, f3, hK3⟩ := u_known (C := RX3) (T := TX3) (N := 7) (n := 7) hts (fun w h9 => wsL_law_in w (inlX3 w h9)) (hts (.instantiable RX3 7) (List.mem_of_getElem? (i := 76) (by decide +kernel)))
  obtain ⟨c4, f4, hK4⟩ := u_known (C := RX4) (T := TX4) (N := 7) (n := 7) hts (fun w h9 => wsL_law_in w (inlX4 w h9)) (hts (.instantiable RX4 7) (List.mem_of_getElem? (i := 68) (by decide +kernel)))
  obtain ⟨c5, f5, hK5⟩ := u_known (C := RX5) (T := TX5) (N := 16) (n := 16) hts (fun w h9 => wsL_law_in w (inlX5 w h9)) (hts (.instantiable RX5 16) (List.mem_of_getElem? (i := 652) (by decide +kernel)))
  obtain ⟨y0, hy0, hz0⟩ := l_prim (hts (.arrayClass .int) (List.mem_of_getElem? (i := 108) (by decide +kernel)))
  obtain ⟨y1, hy1, hz1⟩ := l_prim (hts (.arrayClass .boolean) (List.mem_of_getElem? (i := 109) (by decide +kernel)))
  obtain ⟨y2, hy2, hz2⟩ := l_prim (hts (.arrayClass .char) (List.mem_of_getElem? (i := 157) (by decide +kernel)))
  obtain ⟨y3, hy3, hz3⟩ := l_roll (hts (.arrayOver (.object RX3)) (List.mem_of_getElem? (i := 165) (by decide +kernel)))
  refine ⟨(fun k => match k with
    | 0 => c0
    | 1 => c1
    | 2 => c2
    | 3 => c3
    | 4 => c4
    | _ => c5, fun k => match k with
    | 0 => f0
    | 1 => f1
    | 2 => f2
    | 3 => f3
    | 4 => f4
    | _ => f5), fun k => match k with
    | 0 => y0
    | 1 => y1
    | 2 => y2
    | _ => y3, ?_, ?_⟩
  · intro k q hq
    match k, hq with
    | 0, hq => cases hq; exact hK0
    | 1, hq => cases hq; exact hK1
    | 2, hq => cases hq; exact hK2
    | 3, hq => cases hq; exact hK3
    | 4, hq => cases hq; exact hK4
    | 5, hq => cases hq; exact hK5
    | k + 6, hq => simp [vwCl] at hq
  · intro k q hq
    match k, hq with
    | 0, hq => cases hq; exact ⟨hy0, hz0⟩
    | 1, hq => cases hq; exact ⟨hy1, hz1⟩
    | 2, hq => cases hq; exact ⟨hy2, hz2⟩
    | 3, hq => cases hq; exact ⟨hy3, hz3⟩
    | k + 4, hq => simp [jT] at hq
set_option maxHeartbeats 4000000 in
set_option maxRecDepth 100000 in
theorem l_stat {s : State} {b : Nat} (hts : ∀ w ∈ lw_tbl, w.before #[Value.ref b] s = true) (hgv : (Jvm.Cond.and given_1 narrow_1).before #[Value.ref b] s = true) : ∃ z : Nat → Nat, jST z (lA s) s s.heap := by
  have hs := flat_of_before _ hgv
  have hini : (Cond.initialized "MusicHoles").before #[Value.ref b] s = true := hts (.initialized "MusicHoles") (List.mem_of_getElem? (i := 57) (by decide +kernel))
  have hA : ∀ a : Nat, a < s.heap.size → ¬ lA s a := fun a h9 => Nat.not_le.mpr h9
  obtain ⟨z0, ez0, hz0⟩ := va_Tof (ty := .int) (tm := .static "MusicHoles" "LEAST" "[I") (N := 4) (f := fun k => .int (jI (jL k))) (A := lA s) (by decide) (hs _ (by decide +kernel)) (va_eqt (z := 4) (hs _ (by decide +kernel))) (fun j hj => by
    match j, hj with
    | 0, _ => exact va_eqt (t := .elem (.static "MusicHoles" "LEAST" "[I") (.int 0)) (z := 1) (hs _ (by decide +kernel))
    | 1, _ => exact va_eqt (t := .elem (.static "MusicHoles" "LEAST" "[I") (.int 1)) (z := 1) (hs _ (by decide +kernel))
    | 2, _ => exact va_eqt (t := .elem (.static "MusicHoles" "LEAST" "[I") (.int 2)) (z := 0) (hs _ (by decide +kernel))
    | 3, _ => exact va_eqt (t := .elem (.static "MusicHoles" "LEAST" "[I") (.int 3)) (z := 2) (hs _ (by decide +kernel))
    | j + 4, hj => exact absurd hj (by omega)) hA
  have hv0 := va_Zof (A := lA s) (hts (.laysStatic "MusicHoles" "LEAST" "[I") (List.mem_of_getElem? (i := 207) (by decide +kernel))) hini ez0 hA
  obtain ⟨z1, ez1, hz1⟩ := va_Tof (ty := .int) (tm := .static "MusicHoles" "GREATEST" "[I") (N := 4) (f := fun k => .int (jI (jG k))) (A := lA s) (by decide) (hs _ (by decide +kernel)) (va_eqt (z := 4) (hs _ (by decide +kernel))) (fun j hj => by
    match j, hj with
    | 0, _ => exact va_eqt (t := .elem (.static "MusicHoles" "GREATEST" "[I") (.int 0)) (z := 9) (hs _ (by decide +kernel))
    | 1, _ => exact va_eqt (t := .elem (.static "MusicHoles" "GREATEST" "[I") (.int 1)) (z := 4) (hs _ (by decide +kernel))
    | 2, _ => exact va_eqt (t := .elem (.static "MusicHoles" "GREATEST" "[I") (.int 2)) (z := 4) (hs _ (by decide +kernel))
    | 3, _ => exact va_eqt (t := .elem (.static "MusicHoles" "GREATEST" "[I") (.int 3)) (z := 12) (hs _ (by decide +kernel))
    | j + 4, hj => exact absurd hj (by omega)) hA
  have hv1 := va_Zof (A := lA s) (hts (.laysStatic "MusicHoles" "GREATEST" "[I") (List.mem_of_getElem? (i := 209) (by decide +kernel))) hini ez1 hA
  obtain ⟨z2, ez2, hz2, hlt2⟩ := va_Xof (tm := .static "MusicHoles" "AT_FIRST" "[I") (N := 4) (f := fun k => jI (jF k)) (by decide) (hs _ (by decide +kernel)) (va_eqt (z := 4) (hs _ (by decide +kernel))) (fun j hj => by
    match j, hj with
    | 0, _ => exact va_eqt (t := .elem (.static "MusicHoles" "AT_FIRST" "[I") (.int 0)) (z := 3) (hs _ (by decide +kernel))
    | 1, _ => exact va_eqt (t := .elem (.static "MusicHoles" "AT_FIRST" "[I") (.int 1)) (z := 1) (hs _ (by decide +kernel))
    | 2, _ => exact va_eqt (t := .elem (.static "MusicHoles" "AT_FIRST" "[I") (.int 2)) (z := 1) (hs _ (by decide +kernel))
    | 3, _ => exact va_eqt (t := .elem (.static "MusicHoles" "AT_FIRST" "[I") (.int 3)) (z := 4) (hs _ (by decide +kernel))
    | j + 4, hj => exact absurd hj (by omega))
  have hv2 := va_Zof (A := lA s) (hts (.laysStatic "MusicHoles" "AT_FIRST" "[I") (List.mem_of_getElem? (i := 82) (by decide +kernel))) hini ez2 hA
  exact ⟨fun k => match k with
    | 0 => z0
    | 1 => z1
    | _ => z2, ⟨hv0, hz0⟩, ⟨hv1, hz1⟩, hv2, hz2, hA _ hlt2⟩
set_option maxHeartbeats 4000000 in
set_option maxRecDepth 100000 in
theorem l_nest {s : State} {b : Nat} (hts : ∀ w ∈ lw_tbl, w.before #[Value.ref b] s = true) : jNW s ∧ jX s :=
  ⟨⟨va_Nw.of rfl (hts (.methodLinkNest "MusicHoles" 21 yX2_init "MusicHoles") (List.mem_of_getElem? (i := 112) (by decide +kernel))), va_Nw.of rfl (hts (.methodLinkNest "MusicHoles" 28 yX1_init "MusicHoles") (List.mem_of_getElem? (i := 128) (by decide +kernel))), va_Nw.of rfl (hts (.methodLinkNest "MusicHoles$Paper" 63 yX4_isTrack "MusicHoles") (List.mem_of_getElem? (i := 486) (by decide +kernel))), va_Nw.of rfl (hts (.methodLinkNest "MusicHoles$Paper" 66 yX4_isStep "MusicHoles") (List.mem_of_getElem? (i := 487) (by decide +kernel))), va_Nw.of rfl (hts (.methodLinkNest "MusicHoles$Roll" 48 yX4_isIn "MusicHoles") (List.mem_of_getElem? (i := 214) (by decide +kernel)))⟩, va_Nw.of rfl (hts (.fieldLinkNest "MusicHoles$Roll" 31 "MusicHoles" "AT_FIRST" "[I" "MusicHoles") (List.mem_of_getElem? (i := 81) (by decide +kernel))), va_AO.of (hts (.arrayOver (.object RX3)) (List.mem_of_getElem? (i := 165) (by decide +kernel)))⟩
set_option maxHeartbeats 4000000 in
set_option maxRecDepth 100000 in
theorem whole_start {p : Program} {e : Env} {s : State} {m : MethodId} {below : List Frame} {meth : Method} {c : Code} (l : Launch) (hflags : l.flags = flags0) {b L : Nat} {xs : Nat → Int32} (hL : L ≤ 2048) (C0 : lw_At p s m meth c b L xs) : W p l e room_1 s m #[Value.ref b] below meth c s.heap [] 0 0 (lw_Z below #[Value.ref b] s) (entryFrame m ([Value.ref b] : List Value).toArray 4) := by
  obtain ⟨hx, hb, hr, hml, hown, hts, hX, hbl, hlocks, hgv⟩ := id C0
  have hts9 : ∀ w ∈ wsL_law, w.before #[Value.ref b] s = true := fun w h9 => hts w (wsL_law_in w h9)
  obtain ⟨D, y, hK⟩ := l_known hts
  obtain ⟨z, hZ⟩ := l_stat hts hgv
  obtain ⟨hN, hX2⟩ := l_nest hts
  have hM : jM D y z (lA s) s := ⟨hK, hN, hZ⟩
  have hS : va_S (lA s) s.heap s.heap [] := va_S.rf
  have hP : va_P D vwCl ([] : List va_W).flatten s.heap := fun k q h => by simp at h
  have hD : va_D (lA s) ([] : List va_W).flatten := ⟨fun i j p q h => by simp at h, fun k q h => by simp at h⟩
  have hl := lv_entry ([.ref b]) (n := 4) (Nat.le_of_ble_eq_true rfl)
  rw [lg_entry_eq]
  generalize (lg_sl ([.ref b]) ++ List.replicate (4 - (lg_sl ([.ref b])).length) Slot.unset).toArray = ls at hl ⊢
  have hl : lv_has ls 4 [(0, .ref b)] := hl
  refine jx_new (ci := 4) (fs := [.null, .null, .null, .null, .null, .null, .null]) (C := RX4) (T := TX4) (N := 7) hx hb hts9 inlX4 tyX4 tyX4_ok hown (hts (.classLink RL 7 RX4) (List.mem_of_getElem? (i := 67) (by decide +kernel))) (hts (.instantiable RX4 7) (List.mem_of_getElem? (i := 68) (by decide +kernel))) (hts (.initialized RX4) (List.mem_of_getElem? (i := 57) (by decide +kernel))) hM hP hD hS (fun _ h9 => h9) rfl (fun j hj => by rcases (show j = 0 ∨ j = 1 ∨ j = 2 ∨ j = 3 ∨ j = 4 ∨ j = 5 ∨ j = 6 by omega) with rfl | rfl | rfl | rfl | rfl | rfl | rfl <;> first | exact jdv_int | rfl) (Nat.le_of_ble_eq_true rfl) (Nat.le_of_ble_eq_true rfl) dL_law_0 (fun q0 H hP hD hS => ?_)
  have hP : va_P D vwCl (([] : List va_W) ++ ([[(q0, .inr (4, [.null, .null, .null, .null, .null, .null, .null]))]] : List va_W)).flatten H := hP
  have hD : va_D (lA s) (([] : List va_W) ++ ([[(q0, .inr (4, [.null, .null, .null, .null, .null, .null, .null]))]] : List va_W)).flatten := hD
  refine lv_dup hx hb dL_law_3 rfl ?_
  refine jx_init (cd := cL_law) (nL := 4) (index := 0) (Ts := []) (wsc := []) (own := "") (ym := yX4_init) (rm := rm_X4_init) (wr := ([] : List va_W)) (c0 := [(q0, .inr (4, [.null, .null, .null, .null, .null, .null, .null]))]) (Wf := wf_MH y) (b := q0) hM hX2 hP hD hS (fun _ h9 => h9) (List.Perm.refl _) (fun hp9 => va_runI (As := []) (rest := [.ref q0]) ⟨hx, hb, hml.trans hl.1.symm, hown, hts9⟩ (c_X4_init l D y z q0 H.size) (cwI 0 hts9 gL_law_X4_init rfl rfl rfl (hts (.initialized RX4) (List.mem_of_getElem? (i := 57) (by decide +kernel))) (hts (.methodLink RL 9 yX4_init) (List.mem_of_getElem? (i := 69) (by decide +kernel))) (hts (.instanceMethod yX4_init) (List.mem_of_getElem? (i := 70) (by decide +kernel))) rfl (by decide +kernel) ⟨Nat.le_of_ble_eq_true rfl, Nat.le_of_ble_eq_true rfl⟩) hp9 rfl rfl rfl rfl (lv_room (Nat.le_of_ble_eq_true rfl)) dL_law_4 ⟨Nat.le_of_ble_eq_true rfl, Nat.le_of_ble_eq_true rfl⟩) (fun a9 H locs e0 hP hD hS => ?_)
  rw [← e0]
  refine lv_astore_n (lv' := [(1, .ref (a9 0 0)), (0, .ref b)]) hx hb dL_law_7 rfl hl (by decide) rfl (fun ls hl => ?_)
  have hP : va_P D vwCl (wf_MH y a9).flatten H := hP
  have hD : va_D (lA s) (wf_MH y a9).flatten := hD
  refine jx_new (ci := 5) (fs := [.null, .null, .null, .int (jI 0), .null, .null, .null, .int (jI 0), .null, .null, .null, .int (jI 0), .int (jI 0), .int (jI 0), .int (jI 0), .int (jI 0)]) (C := RX5) (T := TX5) (N := 16) hx hb hts9 inlX5 tyX5 tyX5_ok hown (hts (.classLink RL 10 RX5) (List.mem_of_getElem? (i := 651) (by decide +kernel))) (hts (.instantiable RX5 16) (List.mem_of_getElem? (i := 652) (by decide +kernel))) (hts (.initialized RX5) (List.mem_of_getElem? (i := 63) (by decide +kernel))) hM hP hD hS (fun _ h9 => h9) rfl (fun j hj => by rcases (show j = 0 ∨ j = 1 ∨ j = 2 ∨ j = 3 ∨ j = 4 ∨ j = 5 ∨ j = 6 ∨ j = 7 ∨ j = 8 ∨ j = 9 ∨ j = 10 ∨ j = 11 ∨ j = 12 ∨ j = 13 ∨ j = 14 ∨ j = 15 by omega) with rfl | rfl | rfl | rfl | rfl | rfl | rfl | rfl | rfl | rfl | rfl | rfl | rfl | rfl | rfl | rfl <;> first | exact jdv_int | rfl) (Nat.le_of_ble_eq_true rfl) (Nat.le_of_ble_eq_true rfl) dL_law_8 (fun q1 H hP hD hS => ?_)
  have hP : va_P D vwCl ((wf_MH y a9) ++ ([[(q1, .inr (5, [.null, .null, .null, .int (jI 0), .null, .null, .null, .int (jI 0), .null, .null, .null, .int (jI 0), .int (jI 0), .int (jI 0), .int (jI 0), .int (jI 0)]))]] : List va_W)).flatten H := hP
  have hD : va_D (lA s) ((wf_MH y a9) ++ ([[(q1, .inr (5, [.null, .null, .null, .int (jI 0), .null, .null, .null, .int (jI 0), .null, .null, .null, .int (jI 0), .int (jI 0), .int (jI 0), .int (jI 0), .int (jI 0)]))]] : List va_W)).flatten := hD
  refine lv_dup hx hb dL_law_11 rfl ?_
  refine jx_init (cd := cL_law) (nL := 4) (index := 0) (Ts := []) (wsc := []) (own := "") (ym := yX5_init) (rm := rm_X5_init) (wr := (wf_MH y a9)) (c0 := [(q1, .inr (5, [.null, .null, .null, .int (jI 0), .null, .null, .null, .int (jI 0), .null, .null, .null, .int (jI 0), .int (jI 0), .int (jI 0), .int (jI 0), .int (jI 0)]))]) (Wf := wf_MO y) (b := q1) hM hX2 hP hD hS (fun _ h9 => h9) (List.Perm.refl _) (fun hp9 => va_runI (As := []) (rest := [.ref q1]) ⟨hx, hb, hml.trans hl.1.symm, hown, hts9⟩ (c_X5_init l D y z q1 H.size) (cwI 0 hts9 gL_law_X5_init rfl rfl rfl (hts (.initialized RX5) (List.mem_of_getElem? (i := 63) (by decide +kernel))) (hts (.methodLink RL 12 yX5_init) (List.mem_of_getElem? (i := 653) (by decide +kernel))) (hts (.instanceMethod yX5_init) (List.mem_of_getElem? (i := 654) (by decide +kernel))) rfl (by decide +kernel) ⟨Nat.le_of_ble_eq_true rfl, Nat.le_of_ble_eq_true rfl⟩) hp9 rfl rfl rfl rfl (lv_room (Nat.le_of_ble_eq_true rfl)) dL_law_12 ⟨Nat.le_of_ble_eq_true rfl, Nat.le_of_ble_eq_true rfl⟩) (fun b9 H locs e1 hP hD hS => ?_)
  rw [← e1]
  refine lv_astore_n (lv' := [(2, .ref (b9 0 0)), (1, .ref (a9 0 0)), (0, .ref b)]) hx hb dL_law_15 rfl hl (by decide) rfl (fun ls hl => ?_)
  refine lv_iconst (v := jI 0) hx hb dL_law_16 rfl ?_
  refine lv_istore_n (lv' := [(3, .int (jI ((0 : Nat) : Int))), (2, .ref (b9 0 0)), (1, .ref (a9 0 0)), (0, .ref b)]) hx hb dL_law_17 rfl hl (by decide) rfl (fun ls hl => ?_)
  refine W.widen (k := 600000) (n := 7302250) (Nat.le_of_ble_eq_true rfl) (Nat.le_of_ble_eq_true rfl) ?_
  exact law_loop C0 hM hL (L + 4) 0 _ _ H locs ls (by omega) (by omega) (LREL_0 y a9 b9) hl hP hD hS
