def rm_X2_sounds : Room := { frames := 5, cells := 0, slots := 0, locals := 107 }
set_option maxRecDepth 100000 in
set_option maxHeartbeats 8000000 in
theorem c_X2_sounds (l : Launch) (D : va_G) (y : Nat → ClassId) (z : Nat → Nat) (a : Nat → Nat) (eh : Int → Int) (we : Int) (hf : Int → Int) (x1 : Int) (fu : Nat) (rr : Int) (h_ : f_X2_sounds fu eh x1 = some rr) : jCI l D y z yX2_sounds wsX2_sounds rm_X2_sounds [.ref (a 0), .int (jI x1)] [(wPa y a eh we), (wAr y (a 2) 100 hf)] [(wPa y a eh we), (wAr y (a 2) 100 hf)] rr := by
  intro sz
  refine jmet (Qc := (fun A => va_Qi (fun v (_ : Unit) => v = jI rr) (jB D A [(wPa y a eh we), (wAr y (a 2) 100 hf)]) A)) (cc := cX2_sounds) (maxL := 4) (ret := (some .int)) (own := RX2) (by decide) rfl (Nat.le_of_ble_eq_true rfl) rfl (fun p e s m R args below meth c A ls hR_ hargs_ hx_ hb_ hr_ hlocks_ hml_ hown_ hts_ hname_ hsz_ hP_ hD_ hA_ hM_ hl_ => ?_)
  have key_ : ∀ Q : State → Prop, (∀ (v9 : Int) (H : Heap) (locs : List Loc) (pc : Nat) (ls : Array Slot), some v9 = some rr → decode cX2_sounds pc = .ok (.ireturn, 1) → va_P D vwCl [(wPa y a eh we), (wAr y (a 2) 100 hf)].flatten H → va_D A [(wPa y a eh we), (wAr y (a 2) 100 hf)].flatten → va_S A s.heap H locs → W p l e R s m args below meth c H locs 0 0 Q (F0 m pc ls [.int (jI v9)])) → W p l e R s m args below meth c s.heap [] 0 0 Q (F0 m 0 ls []) := by
    intro Q hE_
    have hS_ : va_S A s.heap s.heap [] := va_S.rf
    have hl_ : lv_has ls 4 [(0, .ref (a 0)), (1, .int (jI x1))] := hl_
    have hin_ : ∀ w ∈ u_ws RX2 TX2 3, w ∈ wsX2_sounds := by decide +kernel
    unfold f_X2_sounds at h_
    refine lv_iconst (v := jI 0) hx_ hb_ dX2_sounds_0 (by decide +kernel) ?_
    refine lv_istore_n (lv' := [(2, .int (jI 0)), (0, .ref (a 0)), (1, .int (jI x1))]) hx_ hb_ dX2_sounds_1 rfl hl_ (by decide) rfl (fun ls hl_ => ?_)
    refine lv_iconst (v := jI 0) hx_ hb_ dX2_sounds_2 (by decide +kernel) ?_
    refine lv_istore_n (lv' := [(3, .int (jI 0)), (2, .int (jI 0)), (0, .ref (a 0)), (1, .int (jI x1))]) hx_ hb_ dX2_sounds_3 rfl hl_ (by decide) rfl (fun ls hl_ => ?_)
    have hX28 : ∀ (v1 : Int) (H : Heap) (locs : List Loc) (ls : Array Slot), f_X2_sounds_X28 fu v1 = some rr → va_P D vwCl [(wPa y a eh we), (wAr y (a 2) 100 hf)].flatten H → va_D A [(wPa y a eh we), (wAr y (a 2) 100 hf)].flatten → va_S A s.heap H locs → lv_has ls 4 [(2, .int (jI v1))] → W p l e R s m args below meth c H locs 0 0 Q (F0 m 28 ls []) := by
      intro v1 H locs ls h_ hP_ hD_ hS_ hl_
      unfold f_X2_sounds_X28 at h_
      refine lv_iload_n hx_ hb_ dX2_sounds_28 rfl (lv_at hl_ 0 rfl) ?_
      exact hE_ _ _ _ _ _ h_ dX2_sounds_29 hP_ hD_ hS_
    have hL4 : ∀ n4 : Nat, ∀ (v2 : Int) (v3 : Int) (H : Heap) (locs : List Loc) (ls : Array Slot), f_X2_sounds_L4 fu eh x1 (f_X2_sounds_X28 fu) n4 v2 v3 = some rr → va_P D vwCl [(wPa y a eh we), (wAr y (a 2) 100 hf)].flatten H → va_D A [(wPa y a eh we), (wAr y (a 2) 100 hf)].flatten → va_S A s.heap H locs → lv_has ls 4 [(0, .ref (a 0)), (1, .int (jI x1)), (2, .int (jI v2)), (3, .int (jI v3))] → W p l e R s m args below meth c H locs 0 0 Q (F0 m 4 ls []) := by
      intro n4
      induction n4 with
      | zero => intro _ _ H locs ls h_; have h_ : (none : Option (Int)) = some rr := h_; cases h_
      | succ n4 ih4 =>
        intro v2 v3 H locs ls h_ hP_ hD_ hS_ hl_
        replace h_ : f_X2_sounds_L4_b fu eh x1 (f_X2_sounds_X28 fu) (f_X2_sounds_L4 fu eh x1 (f_X2_sounds_X28 fu) n4) v2 v3 = some rr := h_
        unfold f_X2_sounds_L4_b at h_
        refine lv_iload_n hx_ hb_ dX2_sounds_4 rfl (lv_at hl_ 3 rfl) ?_
        refine lv_bipush (v := jI 100) hx_ hb_ dX2_sounds_5 (by decide +kernel) ?_
        refine jx_icmp_ge (tgt := 28) hx_ hb_ h_ dX2_sounds_7 (by decide) (fun h_ => ?_) (fun h_ => ?_)
        · exact hX28 _ _ _ ls h_ hP_ hD_ hS_ (lv_sub hl_ [2] rfl)
        · refine lv_aload_n hx_ hb_ dX2_sounds_10 rfl (lv_at hl_ 0 rfl) ?_
          refine lv_iload_n hx_ hb_ dX2_sounds_11 rfl (lv_at hl_ 1 rfl) ?_
          refine lv_iload_n hx_ hb_ dX2_sounds_12 rfl (lv_at hl_ 3 rfl) ?_
          obtain ⟨v4, hv4, h_⟩ := jb_i h_
          refine jx_cvi (wr := []) (cw := [(wPa y a eh we), (wAr y (a 2) 100 hf)]) (cw1 := [(wPa y a eh we), (wAr y (a 2) 100 hf)]) (cs1 := [(wPa y a eh we), (wAr y (a 2) 100 hf)]) (As := [.int (jI x1), .int (jI v3)]) (rest := []) ⟨hx_, hb_, hml_, hown_, hts_⟩ hM_ hP_ hD_ hS_ hA_ (List.Perm.refl _) (List.Perm.refl _) (c_X2_startsSound l D y z a eh we hf x1 v3 fu v4 hv4) 2 gX2_sounds_X2_startsSound rfl ⟨rfl, rfl⟩ (by decide +kernel) ⟨by rw [hR_]; exact Nat.le_of_ble_eq_true rfl, by rw [hR_]; exact Nat.le_of_ble_eq_true rfl⟩ 0 2 rfl rfl rfl rfl rfl hl_.1 (Nat.le_of_ble_eq_true rfl) dX2_sounds_13 ⟨Nat.zero_le _, Nat.zero_le _⟩ (fun H locs hP_ hD_ hS_ => ?_)
          refine jx_if_eq (tgt := 22) hx_ hb_ h_ dX2_sounds_16 (by decide) (fun h_ => ?_) (fun h_ => ?_)
          · refine lv_iinc (v := jI (v3 + 1)) (lv' := [(3, .int (jI (v3 + 1))), (0, .ref (a 0)), (1, .int (jI x1)), (2, .int (jI v2))]) hx_ hb_ dX2_sounds_22 hl_ (k := 3) rfl (jI_add _ _) (by decide) rfl (fun ls hl_ => ?_)
            refine lv_goto (tgt := 4) hx_ hb_ dX2_sounds_25 (by decide) ?_
            exact ih4 _ _ _ _ ls h_ hP_ hD_ hS_ (lv_sub hl_ [1, 2, 3, 0] rfl)
          · refine lv_iinc (v := jI (v2 + 1)) (lv' := [(2, .int (jI (v2 + 1))), (0, .ref (a 0)), (1, .int (jI x1)), (3, .int (jI v3))]) hx_ hb_ dX2_sounds_19 hl_ (k := 2) rfl (jI_add _ _) (by decide) rfl (fun ls hl_ => ?_)
            refine lv_iinc (v := jI (v3 + 1)) (lv' := [(3, .int (jI (v3 + 1))), (2, .int (jI (v2 + 1))), (0, .ref (a 0)), (1, .int (jI x1))]) hx_ hb_ dX2_sounds_22 hl_ (k := 3) rfl (jI_add _ _) (by decide) rfl (fun ls hl_ => ?_)
            refine lv_goto (tgt := 4) hx_ hb_ dX2_sounds_25 (by decide) ?_
            exact ih4 _ _ _ _ ls h_ hP_ hD_ hS_ (lv_sub hl_ [2, 3, 1, 0] rfl)
    exact hL4 fu _ _ _ _ ls h_ hP_ hD_ hS_ (lv_sub hl_ [2, 3, 1, 0] rfl)
  exact key_ _ (fun v9 H locs pc ls h9_ hdg_ hP_ hD_ hS_ => by cases h9_; exact jend_i hx_ hb_ hr_ hlocks_ hP_ hD_ hS_ hdg_)
