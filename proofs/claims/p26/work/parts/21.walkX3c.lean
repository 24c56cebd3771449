def rm_X3_tracksAt : Room := { frames := 2, cells := 0, slots := 0, locals := 42 }
set_option maxRecDepth 100000 in
set_option maxHeartbeats 8000000 in
theorem c_X3_tracksAt (l : Launch) (D : va_G) (y : Nat → ClassId) (z : Nat → Nat) (a : Nat → Nat) (se : Int → Int) (tr : Int → Int) (fi : Int → Int) (la : Int → Int) (sh : Int → Int) (ac : Int → Int) (no : Int) (x1 : Int) (fu : Nat) (rr : Int) (h_ : f_X3_tracksAt fu tr fi la no x1 = some rr) : jCI l D y z yX3_tracksAt wsX3_tracksAt rm_X3_tracksAt [.ref (a 0), .int (jI x1)] [(wRo y a se tr fi la sh ac no)] [(wRo y a se tr fi la sh ac no)] rr := by
  intro sz
  refine jmet (Qc := (fun A => va_Qi (fun v (_ : Unit) => v = jI rr) (jB D A [(wRo y a se tr fi la sh ac no)]) A)) (cc := cX3_tracksAt) (maxL := 4) (ret := (some .int)) (own := RX3) (by decide) rfl (Nat.le_of_ble_eq_true rfl) rfl (fun p e s m R args below meth c A ls hR_ hargs_ hx_ hb_ hr_ hlocks_ hml_ hown_ hts_ hname_ hsz_ hP_ hD_ hA_ hM_ hl_ => ?_)
  have key_ : ∀ Q : State → Prop, (∀ (v9 : Int) (H : Heap) (locs : List Loc) (pc : Nat) (ls : Array Slot), some v9 = some rr → decode cX3_tracksAt pc = .ok (.ireturn, 1) → va_P D vwCl [(wRo y a se tr fi la sh ac no)].flatten H → va_D A [(wRo y a se tr fi la sh ac no)].flatten → va_S A s.heap H locs → W p l e R s m args below meth c H locs 0 0 Q (F0 m pc ls [.int (jI v9)])) → W p l e R s m args below meth c s.heap [] 0 0 Q (F0 m 0 ls []) := by
    intro Q hE_
    have hS_ : va_S A s.heap s.heap [] := va_S.rf
    have hl_ : lv_has ls 4 [(0, .ref (a 0)), (1, .int (jI x1))] := hl_
    have hin_ : ∀ w ∈ u_ws RX3 TX3 7, w ∈ wsX3_tracksAt := by decide +kernel
    unfold f_X3_tracksAt at h_
    refine lv_iconst (v := jI 0) hx_ hb_ dX3_tracksAt_0 (by decide +kernel) ?_
    refine lv_istore_n (lv' := [(2, .int (jI 0)), (0, .ref (a 0)), (1, .int (jI x1))]) hx_ hb_ dX3_tracksAt_1 rfl hl_ (by decide) rfl (fun ls hl_ => ?_)
    refine lv_iconst (v := jI 0) hx_ hb_ dX3_tracksAt_2 (by decide +kernel) ?_
    refine lv_istore_n (lv' := [(3, .int (jI 0)), (2, .int (jI 0)), (0, .ref (a 0)), (1, .int (jI x1))]) hx_ hb_ dX3_tracksAt_3 rfl hl_ (by decide) rfl (fun ls hl_ => ?_)
    have hX46 : ∀ (v1 : Int) (H : Heap) (locs : List Loc) (ls : Array Slot), f_X3_tracksAt_X46 fu v1 = some rr → va_P D vwCl [(wRo y a se tr fi la sh ac no)].flatten H → va_D A [(wRo y a se tr fi la sh ac no)].flatten → va_S A s.heap H locs → lv_has ls 4 [(2, .int (jI v1))] → W p l e R s m args below meth c H locs 0 0 Q (F0 m 46 ls []) := by
      intro v1 H locs ls h_ hP_ hD_ hS_ hl_
      unfold f_X3_tracksAt_X46 at h_
      refine lv_iload_n hx_ hb_ dX3_tracksAt_46 rfl (lv_at hl_ 0 rfl) ?_
      exact hE_ _ _ _ _ _ h_ dX3_tracksAt_47 hP_ hD_ hS_
    have hL4 : ∀ n4 : Nat, ∀ (v2 : Int) (v3 : Int) (H : Heap) (locs : List Loc) (ls : Array Slot), f_X3_tracksAt_L4 fu tr fi la no x1 (f_X3_tracksAt_X46 fu) n4 v2 v3 = some rr → va_P D vwCl [(wRo y a se tr fi la sh ac no)].flatten H → va_D A [(wRo y a se tr fi la sh ac no)].flatten → va_S A s.heap H locs → lv_has ls 4 [(0, .ref (a 0)), (1, .int (jI x1)), (2, .int (jI v2)), (3, .int (jI v3))] → W p l e R s m args below meth c H locs 0 0 Q (F0 m 4 ls []) := by
      intro n4
      induction n4 with
      | zero => intro _ _ H locs ls h_; have h_ : (none : Option (Int)) = some rr := h_; cases h_
      | succ n4 ih4 =>
        intro v2 v3 H locs ls h_ hP_ hD_ hS_ hl_
        replace h_ : f_X3_tracksAt_L4_b fu tr fi la no x1 (f_X3_tracksAt_X46 fu) (f_X3_tracksAt_L4 fu tr fi la no x1 (f_X3_tracksAt_X46 fu) n4) v2 v3 = some rr := h_
        unfold f_X3_tracksAt_L4_b at h_
        refine lv_iload_n hx_ hb_ dX3_tracksAt_4 rfl (lv_at hl_ 3 rfl) ?_
        refine lv_aload_n hx_ hb_ dX3_tracksAt_5 rfl (lv_at hl_ 0 rfl) ?_
        refine va_get (D := D) (ci := 3) (v := .int (jI no)) (C := RX3) (T := TX3) (N := 7) hx_ hb_ hts_ hin_ hown_ hM_.1 hP_ 0 rfl rfl 6 (by decide) (hts_ (.fieldLink RX3 44 "MusicHoles$Roll" "notes" "I") (by decide +kernel)) (fun _ h9_ => h9_) rfl dX3_tracksAt_6 ?_
        refine jx_icmp_ge (tgt := 46) hx_ hb_ h_ dX3_tracksAt_9 (by decide) (fun h_ => ?_) (fun h_ => ?_)
        · exact hX46 _ _ _ ls h_ hP_ hD_ hS_ (lv_sub hl_ [2] rfl)
        · refine lv_aload_n hx_ hb_ dX3_tracksAt_12 rfl (lv_at hl_ 0 rfl) ?_
          refine lv_iload_n hx_ hb_ dX3_tracksAt_13 rfl (lv_at hl_ 3 rfl) ?_
          obtain ⟨v4, hv4, h_⟩ := jb_i h_
          refine jx_cvi (wr := []) (cw := [(wRo y a se tr fi la sh ac no)]) (cw1 := [(wRo y a se tr fi la sh ac no)]) (cs1 := [(wRo y a se tr fi la sh ac no)]) (As := [.int (jI v3)]) (rest := []) ⟨hx_, hb_, hml_, hown_, hts_⟩ hM_ hP_ hD_ hS_ hA_ (List.Perm.refl _) (List.Perm.refl _) (c_X3_firstOf l D y z a se tr fi la sh ac no v3 fu v4 hv4) 1 gX3_tracksAt_X3_firstOf rfl ⟨rfl, rfl⟩ (by decide +kernel) ⟨by rw [hR_]; exact Nat.le_of_ble_eq_true rfl, by rw [hR_]; exact Nat.le_of_ble_eq_true rfl⟩ 0 3 rfl rfl rfl rfl rfl hl_.1 (Nat.le_of_ble_eq_true rfl) dX3_tracksAt_14 ⟨Nat.zero_le _, Nat.zero_le _⟩ (fun H locs hP_ hD_ hS_ => ?_)
          refine lv_iload_n hx_ hb_ dX3_tracksAt_17 rfl (lv_at hl_ 1 rfl) ?_
          refine jx_icmp_gt (tgt := 40) hx_ hb_ h_ dX3_tracksAt_18 (by decide) (fun h_ => ?_) (fun h_ => ?_)
          · refine lv_iinc (v := jI (v3 + 1)) (lv' := [(3, .int (jI (v3 + 1))), (0, .ref (a 0)), (1, .int (jI x1)), (2, .int (jI v2))]) hx_ hb_ dX3_tracksAt_40 hl_ (k := 3) rfl (jI_add _ _) (by decide) rfl (fun ls hl_ => ?_)
            refine lv_goto (tgt := 4) hx_ hb_ dX3_tracksAt_43 (by decide) ?_
            exact ih4 _ _ _ _ ls h_ hP_ hD_ hS_ (lv_sub hl_ [1, 2, 3, 0] rfl)
          · refine lv_aload_n hx_ hb_ dX3_tracksAt_21 rfl (lv_at hl_ 0 rfl) ?_
            refine lv_iload_n hx_ hb_ dX3_tracksAt_22 rfl (lv_at hl_ 3 rfl) ?_
            obtain ⟨v5, hv5, h_⟩ := jb_i h_
            refine jx_cvi (wr := []) (cw := [(wRo y a se tr fi la sh ac no)]) (cw1 := [(wRo y a se tr fi la sh ac no)]) (cs1 := [(wRo y a se tr fi la sh ac no)]) (As := [.int (jI v3)]) (rest := []) ⟨hx_, hb_, hml_, hown_, hts_⟩ hM_ hP_ hD_ hS_ hA_ (List.Perm.refl _) (List.Perm.refl _) (c_X3_lastOf l D y z a se tr fi la sh ac no v3 fu v5 hv5) 1 gX3_tracksAt_X3_lastOf rfl ⟨rfl, rfl⟩ (by decide +kernel) ⟨by rw [hR_]; exact Nat.le_of_ble_eq_true rfl, by rw [hR_]; exact Nat.le_of_ble_eq_true rfl⟩ 0 3 rfl rfl rfl rfl rfl hl_.1 (Nat.le_of_ble_eq_true rfl) dX3_tracksAt_23 ⟨Nat.zero_le _, Nat.zero_le _⟩ (fun H locs hP_ hD_ hS_ => ?_)
            refine lv_iload_n hx_ hb_ dX3_tracksAt_26 rfl (lv_at hl_ 1 rfl) ?_
            refine jx_icmp_lt (tgt := 40) hx_ hb_ h_ dX3_tracksAt_27 (by decide) (fun h_ => ?_) (fun h_ => ?_)
            · refine lv_iinc (v := jI (v3 + 1)) (lv' := [(3, .int (jI (v3 + 1))), (0, .ref (a 0)), (1, .int (jI x1)), (2, .int (jI v2))]) hx_ hb_ dX3_tracksAt_40 hl_ (k := 3) rfl (jI_add _ _) (by decide) rfl (fun ls hl_ => ?_)
              refine lv_goto (tgt := 4) hx_ hb_ dX3_tracksAt_43 (by decide) ?_
              exact ih4 _ _ _ _ ls h_ hP_ hD_ hS_ (lv_sub hl_ [1, 2, 3, 0] rfl)
            · refine lv_iload_n hx_ hb_ dX3_tracksAt_30 rfl (lv_at hl_ 2 rfl) ?_
              refine lv_iconst (v := jI 1) hx_ hb_ dX3_tracksAt_31 (by decide +kernel) ?_
              refine lv_aload_n hx_ hb_ dX3_tracksAt_32 rfl (lv_at hl_ 0 rfl) ?_
              refine lv_iload_n hx_ hb_ dX3_tracksAt_33 rfl (lv_at hl_ 3 rfl) ?_
              obtain ⟨v6, hv6, h_⟩ := jb_i h_
              refine jx_cvi (wr := []) (cw := [(wRo y a se tr fi la sh ac no)]) (cw1 := [(wRo y a se tr fi la sh ac no)]) (cs1 := [(wRo y a se tr fi la sh ac no)]) (As := [.int (jI v3)]) (rest := [.int (jI 1), .int (jI v2)]) ⟨hx_, hb_, hml_, hown_, hts_⟩ hM_ hP_ hD_ hS_ hA_ (List.Perm.refl _) (List.Perm.refl _) (c_X3_trackOf l D y z a se tr fi la sh ac no v3 fu v6 hv6) 1 gX3_tracksAt_X3_trackOf rfl ⟨rfl, rfl⟩ (by decide +kernel) ⟨by rw [hR_]; exact Nat.le_of_ble_eq_true rfl, by rw [hR_]; exact Nat.le_of_ble_eq_true rfl⟩ 0 3 rfl rfl rfl rfl rfl hl_.1 (Nat.le_of_ble_eq_true rfl) dX3_tracksAt_34 ⟨Nat.zero_le _, Nat.zero_le _⟩ (fun H locs hP_ hD_ hS_ => ?_)
              refine jx_ishl hx_ hb_ dX3_tracksAt_37 ?_
              refine jx_ior hx_ hb_ dX3_tracksAt_38 ?_
              refine lv_istore_n (lv' := [(2, .int (jI (jor v2 (jshl 1 v6)))), (0, .ref (a 0)), (1, .int (jI x1)), (3, .int (jI v3))]) hx_ hb_ dX3_tracksAt_39 rfl hl_ (by decide) rfl (fun ls hl_ => ?_)
              refine lv_iinc (v := jI (v3 + 1)) (lv' := [(3, .int (jI (v3 + 1))), (2, .int (jI (jor v2 (jshl 1 v6)))), (0, .ref (a 0)), (1, .int (jI x1))]) hx_ hb_ dX3_tracksAt_40 hl_ (k := 3) rfl (jI_add _ _) (by decide) rfl (fun ls hl_ => ?_)
              refine lv_goto (tgt := 4) hx_ hb_ dX3_tracksAt_43 (by decide) ?_
              exact ih4 _ _ _ _ ls h_ hP_ hD_ hS_ (lv_sub hl_ [2, 3, 1, 0] rfl)
    exact hL4 fu _ _ _ _ ls h_ hP_ hD_ hS_ (lv_sub hl_ [2, 3, 1, 0] rfl)
  exact key_ _ (fun v9 H locs pc ls h9_ hdg_ hP_ hD_ hS_ => by cases h9_; exact jend_i hx_ hb_ hr_ hlocks_ hP_ hD_ hS_ hdg_)
