def lA (s : State) : Nat → Prop := fun q => s.heap.size ≤ q
def cellV (xs : Nat → Int32) (L : Nat) (k : Int) : Int := if k < (L : Int) then (xs k.toNat).toInt else 920236517 * (k + 1) + 793545339
def rm_L_cell : Room := { frames := 0, cells := 0, slots := 0, locals := 0 }
def cPre (sz b L : Nat) (xs : Nat → Int32) (U : State) : Prop := U.heap.size = sz ∧ va_X b L xs U U.heap
theorem cPre.calling {sz b L : Nat} {xs : Nat → Int32} {U : State} {g : JFrame} {mk : MethodId} {a : Array Value} (h : cPre sz b L xs U) : cPre sz b L xs (U.calling g mk a) := ⟨h.1, va_X.moved (u := U) (U := U.calling g mk a) (Vm.Alike.refl U.vm) h.2⟩
theorem cblind (av : List Value) (sz b L : Nat) (xs : Nat → Int32) : FrameBlind (va_Pc av (cPre sz b L xs)) := fun _ _ _ _ q => ⟨q.1, q.2.calling⟩
set_option maxRecDepth 100000 in
set_option maxHeartbeats 4000000 in
theorem c_L_cell (l : Launch) {b L : Nat} {xs : Nat → Int32} (hL : L ≤ 260) {k : Int} (k0 : 0 ≤ k) (k1 : k < 2147483648) (sz : Nat) (hsb : b < sz) : Met l yL_cell wsL_cell rm_L_cell (va_Pc [.ref b, .int (jI k)] (cPre sz b L xs)) (va_Qi (fun v (_ : Unit) => v = jI (cellV xs L k)) (fun (_ : Unit) (_ : State) => True) (va_A [] sz)) 0 0 (va_A [] sz) := by
  refine Met.ofW (cc := cL_cell) (maxL := 2) (ret := some .int) (by decide) rfl ?_
  intro p e s m args below meth c s₁ B hml hv
  obtain ⟨rfl, hsz, hX⟩ := hv
  have hl := lv_entry ([.ref b, .int (jI k)]) (n := 2) (Nat.le_of_ble_eq_true rfl)
  rw [lg_entry_eq]
  generalize (lg_sl ([.ref b, .int (jI k)]) ++ List.replicate (2 - (lg_sl ([.ref b, .int (jI k)])).length) Slot.unset).toArray = ls at hl ⊢
  have hl : lv_has ls 2 [(0, .ref b), (1, .int (jI k))] := hl
  have hx := B.exec
  have hb := B.bytes
  have hr := B.returns
  have hts := atoms_spec (ws := wsL_cell) B.pre
  have hown : s.vm.findClass RL = some m.cls := findClass_of_methodNamed B.named
  have hS : va_S (va_A [] sz) s.heap s.heap [] := va_S.rf
  have hbA : ¬ va_A [] sz b := by
    intro h
    rcases h with ⟨k9, e9, h9⟩ | h9
    · simp at h9
    · omega
  have hbl : b < s.heap.size := by omega
  refine lv_iload_n hx hb dL_cell_0 rfl (lv_at hl 1 rfl) ?_
  refine lv_aload_n hx hb dL_cell_1 rfl (lv_at hl 0 rfl) ?_
  refine va_slen hx hb hX hbl hbA hS dL_cell_2 ?_
  refine lv_icmp_ge (tgt := 12) hx hb dL_cell_3 rfl (fun q => ?_) (fun q => ?_)
  · have hk : (L : Int) ≤ k := (jI_le (a := (L : Int)) (b := k) ⟨by omega, by omega⟩ ⟨by omega, k1⟩).mp q
    refine lv_ldc (v := jI 920236517) hx hb hown (hts (.constant RL 7 (jI 920236517)) (by decide +kernel)) dL_cell_12 ?_
    refine lv_iload_n hx hb dL_cell_14 rfl (lv_at hl 1 rfl) ?_
    refine lv_iconst (v := jI 1) hx hb dL_cell_15 (by decide +kernel) ?_
    refine jx_iadd hx hb dL_cell_16 ?_
    refine jx_imul hx hb dL_cell_17 ?_
    refine lv_ldc (v := jI 793545339) hx hb hown (hts (.constant RL 8 (jI 793545339)) (by decide +kernel)) dL_cell_18 ?_
    refine jx_iadd hx hb dL_cell_20 ?_
    have e : cellV xs L k = 920236517 * (k + 1) + 793545339 := if_neg (by omega)
    rw [← e]
    exact W.iret hx hb hr (fun t ht _ => ⟨⟨jI (cellV xs L k), (), rfl, rfl, trivial⟩, hS.F ht⟩) hS.2.2 dL_cell_21
  · have hk : k < (L : Int) := by
      by_cases h : k < (L : Int)
      · exact h
      · exact absurd ((jI_le (a := (L : Int)) (b := k) ⟨by omega, by omega⟩ ⟨by omega, k1⟩).mpr (by omega)) q
    refine lv_aload_n hx hb dL_cell_6 rfl (lv_at hl 0 rfl) ?_
    refine lv_iload_n hx hb dL_cell_7 rfl (lv_at hl 1 rfl) ?_
    refine va_sld hx hb hX hbl hbA hS (jI_in (by omega) (by omega) (by omega)) dL_cell_8 ?_
    rw [jI_nat k0 k1]
    refine lv_goto (tgt := 21) hx hb dL_cell_9 (by decide) ?_
    have e : xs k.toNat = jI (cellV xs L k) := by
      unfold cellV
      rw [if_pos hk, jI_of]
    rw [e]
    exact W.iret hx hb hr (fun t ht _ => ⟨⟨jI (cellV xs L k), (), rfl, rfl, trivial⟩, hS.F ht⟩) hS.2.2 dL_cell_21
section L84
variable {p : Program} {l : Launch} {e : Env} {s : State} {m : MethodId} {below : List Frame} {meth : Method} {c : Code} {b L : Nat} {xs : Nat → Int32} {D : va_G} {y : Nat → ClassId} {z : Nat → Nat}
theorem cell_row (hL : L ≤ 260) (C0 : lw_At p s m meth c b L xs) {cs : List va_W} {H : Heap} {locs : List Loc} {ls : Array Slot} {pc : Nat} {i : Int} {rest : List Value} (i0 : 0 ≤ i) (i1 : i < 2147483648) (hP : va_P D vwCl cs.flatten H) (hD : va_D (lA s) cs.flatten) (hS : va_S (lA s) s.heap H locs) (hz : ls.size = 18) (hrest : (rest.map fun v => v.category).sum = 0) (hdg : decode cL_law pc = .ok (.invokestatic 62, 3))
    (k : ∀ (H1 : Heap) (locs1 : List Loc), va_P D vwCl cs.flatten H1 → va_D (lA s) cs.flatten → va_S (lA s) s.heap H1 locs1 → W p l e room_1 s m #[Value.ref b] below meth c H1 locs1 600000 7302250 (lw_Z below #[Value.ref b] s) (F0 m (pc + 3) ls (.int (jI (cellV xs L i)) :: rest))) : W p l e room_1 s m #[Value.ref b] below meth c H locs 600000 7302250 (lw_Z below #[Value.ref b] s) (F0 m pc ls (.int (jI i) :: .ref b :: rest)) := by
  obtain ⟨hx, hb, hr, hml, hown, hts, hX, hbl, hlocks, hgv⟩ := id C0
  have hts9 : ∀ w ∈ wsL_law, w.before #[Value.ref b] s = true := fun w h9 => hts w (wsL_law_in w h9)
  have hX' : va_X b L xs s H := hX.kept (hS.2.1 b hbl (Nat.not_le.mpr hbl))
  have hbH : b < H.size := Nat.lt_of_lt_of_le hbl hS.1
  have hFc : ∀ q9, va_A [] H.size q9 → lA s q9 := fun q9 h9 => by
    rcases h9 with ⟨k9, e9, h9⟩ | h9
    · simp at h9
    · exact Nat.le_trans hS.1 h9
  show W p l e room_1 s m #[Value.ref b] below meth c H locs 600000 7302250 (lw_Z below #[Value.ref b] s) (F0 m pc ls (([.ref b, .int (jI i)] : List Value).reverse ++ rest))
  refine va_calli (va_runS (As := [.ref b, .int (jI i)]) (rest := rest) (cc := cL_law) (nL := 18) (Ts := wsL_law) (own := RL) ⟨hx, hb, hml, hown, hts9⟩ (c_L_cell l hL i0 i1 H.size hbH) (va_cwS 2 hts9 gL_law_L_cell rfl rfl rfl (by decide +kernel) ⟨Nat.le_of_ble_eq_true rfl, Nat.le_of_ble_eq_true rfl⟩) ⟨cblind _ H.size b L xs, fun U hU hW => ⟨rfl, by rw [hU], by rw [hU]; exact hX'.moved hW.alike⟩⟩ rfl rfl hz rfl (lv_room (by rw [hrest]; exact Nat.zero_le _)) hdg ⟨Nat.le_refl _, Nat.le_refl _⟩) hS (fun q9 _ h9 => hFc q9 h9) hFc (fun r9 u9 t9 H9 locs9 ht9 _ hw9 hB9 hz9 hk9 hS9 => ?_)
  subst hw9
  refine k H9 locs9 (hP.kept (fun k8 q8 h8 => hk9 q8.1 (hP k8 q8 h8).lt (fun h => ?_))) hD hS9
  rcases h with ⟨k9, e9, h9⟩ | h9
  · simp at h9
  · exact absurd (hP k8 q8 h8).lt (by omega)
end L84
