def rm_X3_remove : Room := { frames := 2, cells := 0, slots := 0, locals := 44 }
set_option maxRecDepth 100000 in
set_option maxHeartbeats 8000000 in
theorem c_X3_remove (l : Launch) (D : va_G) (y : Nat → ClassId) (z : Nat → Nat) (a : Nat → Nat) (se : Int → Int) (tr : Int → Int) (fi : Int → Int) (la : Int → Int) (sh : Int → Int) (ac : Int → Int) (no : Int) (x1 : Int) (fu : Nat) (q_tr : Int → Int) (q_fi : Int → Int) (q_la : Int → Int) (q_sh : Int → Int) (q_ac : Int → Int) (q_no : Int) (h_ : f_X3_remove fu tr fi la sh ac no x1 = some (q_tr, q_fi, q_la, q_sh, q_ac, q_no)) : jCV l D y z yX3_remove wsX3_remove rm_X3_remove [.ref (a 0), .int (jI x1)] [(wRo y a se tr fi la sh ac no)] [(wRo y a se q_tr q_fi q_la q_sh q_ac q_no)] := by
  intro sz
  refine jmet (Qc := (fun A => va_Qv (fun (_ : Unit) => True) (jB D A [(wRo y a se q_tr q_fi q_la q_sh q_ac q_no)]) A)) (cc := cX3_remove) (maxL := 3) (ret := none) (own := RX3) (by decide) rfl (Nat.le_of_ble_eq_true rfl) rfl (fun p e s m R args below meth c A ls hR_ hargs_ hx_ hb_ hr_ hlocks_ hml_ hown_ hts_ hname_ hsz_ hP_ hD_ hA_ hM_ hl_ => ?_)
  have key_ : ∀ Q : State → Prop, (∀ (tr9 : Int → Int) (fi9 : Int → Int) (la9 : Int → Int) (sh9 : Int → Int) (ac9 : Int → Int) (no9 : Int) (H : Heap) (locs : List Loc) (pc : Nat) (ls : Array Slot), some (tr9, fi9, la9, sh9, ac9, no9) = some (q_tr, q_fi, q_la, q_sh, q_ac, q_no) → decode cX3_remove pc = .ok (.return_, 1) → va_P D vwCl [(wRo y a se tr9 fi9 la9 sh9 ac9 no9)].flatten H → va_D A [(wRo y a se tr9 fi9 la9 sh9 ac9 no9)].flatten → va_S A s.heap H locs → W p l e R s m args below meth c H locs 0 0 Q (F0 m pc ls [])) → W p l e R s m args below meth c s.heap [] 0 0 Q (F0 m 0 ls []) := by
    intro Q hE_
    have hS_ : va_S A s.heap s.heap [] := va_S.rf
    have hl_ : lv_has ls 3 [(0, .ref (a 0)), (1, .int (jI x1))] := hl_
    have hin_ : ∀ w ∈ u_ws RX3 TX3 7, w ∈ wsX3_remove := by decide +kernel
    unfold f_X3_remove at h_
    refine lv_aload_n hx_ hb_ dX3_remove_0 rfl (lv_at hl_ 0 rfl) ?_
    refine lv_iload_n hx_ hb_ dX3_remove_1 rfl (lv_at hl_ 1 rfl) ?_
    obtain ⟨v1, hv1, h_⟩ := jb_i h_
    refine jx_cvi (wr := []) (cw := [(wRo y a se tr fi la sh ac no)]) (cw1 := [(wRo y a se tr fi la sh ac no)]) (cs1 := [(wRo y a se tr fi la sh ac no)]) (As := [.int (jI x1)]) (rest := []) ⟨hx_, hb_, hml_, hown_, hts_⟩ hM_ hP_ hD_ hS_ hA_ (List.Perm.refl _) (List.Perm.refl _) (c_X3_has l D y z a se tr fi la sh ac no x1 fu v1 hv1) 1 gX3_remove_X3_has rfl ⟨rfl, rfl⟩ (by decide +kernel) ⟨by rw [hR_]; exact Nat.le_of_ble_eq_true rfl, by rw [hR_]; exact Nat.le_of_ble_eq_true rfl⟩ 0 3 rfl rfl rfl rfl rfl hl_.1 (Nat.le_of_ble_eq_true rfl) dX3_remove_2 ⟨Nat.zero_le _, Nat.zero_le _⟩ (fun H locs hP_ hD_ hS_ => ?_)
    refine jx_if_eq (tgt := 44) hx_ hb_ h_ dX3_remove_5 (by decide) (fun h_ => ?_) (fun h_ => ?_)
    · exact hE_ _ _ _ _ _ _ _ _ _ _ h_ dX3_remove_44 hP_ hD_ hS_
    · refine lv_iload_n hx_ hb_ dX3_remove_8 rfl (lv_at hl_ 1 rfl) ?_
      refine lv_iconst (v := jI 1) hx_ hb_ dX3_remove_9 (by decide +kernel) ?_
      refine jx_iadd hx_ hb_ dX3_remove_10 ?_
      refine lv_istore_n (lv' := [(2, .int (jI (x1 + 1))), (0, .ref (a 0)), (1, .int (jI x1))]) hx_ hb_ dX3_remove_11 rfl hl_ (by decide) rfl (fun ls hl_ => ?_)
      have hX34 : ∀ (tr_m2 : Int → Int) (fi_m3 : Int → Int) (la_m4 : Int → Int) (sh_m5 : Int → Int) (ac_m6 : Int → Int) (no_m7 : Int) (H : Heap) (locs : List Loc) (ls : Array Slot), f_X3_remove_X34 fu tr_m2 fi_m3 la_m4 sh_m5 ac_m6 no_m7 = some (q_tr, q_fi, q_la, q_sh, q_ac, q_no) → va_P D vwCl [(wRo y a se tr_m2 fi_m3 la_m4 sh_m5 ac_m6 no_m7)].flatten H → va_D A [(wRo y a se tr_m2 fi_m3 la_m4 sh_m5 ac_m6 no_m7)].flatten → va_S A s.heap H locs → lv_has ls 3 [(0, .ref (a 0))] → W p l e R s m args below meth c H locs 0 0 Q (F0 m 34 ls []) := by
        intro tr_m2 fi_m3 la_m4 sh_m5 ac_m6 no_m7 H locs ls h_ hP_ hD_ hS_ hl_
        unfold f_X3_remove_X34 at h_
        refine lv_aload_n hx_ hb_ dX3_remove_34 rfl (lv_at hl_ 0 rfl) ?_
        refine lv_dup hx_ hb_ dX3_remove_35 rfl ?_
        refine va_get (D := D) (ci := 3) (v := .int (jI no_m7)) (C := RX3) (T := TX3) (N := 7) hx_ hb_ hts_ hin_ hown_ hM_.1 hP_ 0 rfl rfl 6 (by decide) (hts_ (.fieldLink RX3 44 "MusicHoles$Roll" "notes" "I") (by decide +kernel)) (fun _ h9_ => h9_) rfl dX3_remove_36 ?_
        refine lv_iconst (v := jI 1) hx_ hb_ dX3_remove_39 (by decide +kernel) ?_
        refine jx_isub hx_ hb_ dX3_remove_40 ?_
        refine va_put (D := D) (ci := 3) (v := .int (jI (no_m7 - 1))) (ty := .int) (C := RX3) (T := TX3) (N := 7) hx_ hb_ hts_ hin_ tyX3 tyX3_ok nmX3 hown_ hM_.1 hP_ hD_ hS_ 0 rfl rfl 6 (by decide) (hts_ (.fieldLink RX3 44 "MusicHoles$Roll" "notes" "I") (by decide +kernel)) (fun _ h9_ => h9_) rfl (by decide +kernel) rfl rfl (Nat.le_of_ble_eq_true rfl) dX3_remove_41 (fun H locs hP_ hD_ hS_ => ?_)
        have hP_ : va_P D vwCl [(wRo y a se tr_m2 fi_m3 la_m4 sh_m5 ac_m6 (no_m7 - 1))].flatten H := hP_
        have hD_ : va_D A [(wRo y a se tr_m2 fi_m3 la_m4 sh_m5 ac_m6 (no_m7 - 1))].flatten := hD_
        exact hE_ _ _ _ _ _ _ _ _ _ _ h_ dX3_remove_44 hP_ hD_ hS_
      have hL12 : ∀ n12 : Nat, ∀ (tr_m8 : Int → Int) (fi_m9 : Int → Int) (la_m10 : Int → Int) (sh_m11 : Int → Int) (ac_m12 : Int → Int) (no_m13 : Int) (v14 : Int) (H : Heap) (locs : List Loc) (ls : Array Slot), f_X3_remove_L12 fu (f_X3_remove_X34 fu) n12 tr_m8 fi_m9 la_m10 sh_m11 ac_m12 no_m13 v14 = some (q_tr, q_fi, q_la, q_sh, q_ac, q_no) → va_P D vwCl [(wRo y a se tr_m8 fi_m9 la_m10 sh_m11 ac_m12 no_m13)].flatten H → va_D A [(wRo y a se tr_m8 fi_m9 la_m10 sh_m11 ac_m12 no_m13)].flatten → va_S A s.heap H locs → lv_has ls 3 [(0, .ref (a 0)), (2, .int (jI v14))] → W p l e R s m args below meth c H locs 0 0 Q (F0 m 12 ls []) := by
        intro n12
        induction n12 with
        | zero => intro _ _ _ _ _ _ _ H locs ls h_; have h_ : (none : Option ((Int → Int) × (Int → Int) × (Int → Int) × (Int → Int) × (Int → Int) × Int)) = some (q_tr, q_fi, q_la, q_sh, q_ac, q_no) := h_; cases h_
        | succ n12 ih12 =>
          intro tr_m8 fi_m9 la_m10 sh_m11 ac_m12 no_m13 v14 H locs ls h_ hP_ hD_ hS_ hl_
          replace h_ : f_X3_remove_L12_b fu (f_X3_remove_X34 fu) (f_X3_remove_L12 fu (f_X3_remove_X34 fu) n12) tr_m8 fi_m9 la_m10 sh_m11 ac_m12 no_m13 v14 = some (q_tr, q_fi, q_la, q_sh, q_ac, q_no) := h_
          unfold f_X3_remove_L12_b at h_
          refine lv_iload_n hx_ hb_ dX3_remove_12 rfl (lv_at hl_ 1 rfl) ?_
          refine lv_aload_n hx_ hb_ dX3_remove_13 rfl (lv_at hl_ 0 rfl) ?_
          refine va_get (D := D) (ci := 3) (v := .int (jI no_m13)) (C := RX3) (T := TX3) (N := 7) hx_ hb_ hts_ hin_ hown_ hM_.1 hP_ 0 rfl rfl 6 (by decide) (hts_ (.fieldLink RX3 44 "MusicHoles$Roll" "notes" "I") (by decide +kernel)) (fun _ h9_ => h9_) rfl dX3_remove_14 ?_
          refine jx_icmp_ge (tgt := 34) hx_ hb_ h_ dX3_remove_17 (by decide) (fun h_ => ?_) (fun h_ => ?_)
          · exact hX34 _ _ _ _ _ _ _ _ ls h_ hP_ hD_ hS_ (lv_sub hl_ [0] rfl)
          · refine lv_aload_n hx_ hb_ dX3_remove_20 rfl (lv_at hl_ 0 rfl) ?_
            refine lv_iload_n hx_ hb_ dX3_remove_21 rfl (lv_at hl_ 1 rfl) ?_
            refine lv_iload_n hx_ hb_ dX3_remove_22 rfl (lv_at hl_ 1 rfl) ?_
            refine lv_iconst (v := jI 1) hx_ hb_ dX3_remove_23 (by decide +kernel) ?_
            refine jx_isub hx_ hb_ dX3_remove_24 ?_
            obtain ⟨tr_m15, fi_m16, la_m17, sh_m18, ac_m19, htr_m15, h_⟩ := jb5_i h_
            refine jx_cvv (rv := 0) (wr := []) (cw := [(wRo y a se tr_m8 fi_m9 la_m10 sh_m11 ac_m12 no_m13)]) (cw1 := [(wRo y a se tr_m15 fi_m16 la_m17 sh_m18 ac_m19 no_m13)]) (cs1 := [(wRo y a se tr_m15 fi_m16 la_m17 sh_m18 ac_m19 no_m13)]) (As := [.int (jI v14), .int (jI (v14 - 1))]) (rest := []) ⟨hx_, hb_, hml_, hown_, hts_⟩ hM_ hP_ hD_ hS_ hA_ (List.Perm.refl _) (List.Perm.refl _) (c_X3_move l D y z a se tr_m8 fi_m9 la_m10 sh_m11 ac_m12 no_m13 v14 (v14 - 1) fu tr_m15 fi_m16 la_m17 sh_m18 ac_m19 htr_m15) 2 gX3_remove_X3_move rfl ⟨rfl, rfl⟩ (by decide +kernel) ⟨by rw [hR_]; exact Nat.le_of_ble_eq_true rfl, by rw [hR_]; exact Nat.le_of_ble_eq_true rfl⟩ 0 3 rfl rfl rfl rfl rfl hl_.1 (Nat.le_of_ble_eq_true rfl) dX3_remove_25 ⟨Nat.zero_le _, Nat.zero_le _⟩ (fun H locs hP_ hD_ hS_ => ?_)
            refine lv_iinc (v := jI (v14 + 1)) (lv' := [(2, .int (jI (v14 + 1))), (0, .ref (a 0))]) hx_ hb_ dX3_remove_28 hl_ (k := 1) rfl (jI_add _ _) (by decide) rfl (fun ls hl_ => ?_)
            refine lv_goto (tgt := 12) hx_ hb_ dX3_remove_31 (by decide) ?_
            exact ih12 _ _ _ _ _ _ _ _ _ ls h_ hP_ hD_ hS_ (lv_sub hl_ [1, 0] rfl)
      exact hL12 fu _ _ _ _ _ _ _ _ _ ls h_ hP_ hD_ hS_ (lv_sub hl_ [1, 0] rfl)
  exact key_ _ (fun tr9 fi9 la9 sh9 ac9 no9 H locs pc ls h9_ hdg_ hP_ hD_ hS_ => by cases h9_; exact jend_v hx_ hb_ hr_ hlocks_ hP_ hD_ hS_ hdg_)
def rm_X3_shiftOf : Room := { frames := 1, cells := 0, slots := 0, locals := 21 }
set_option maxRecDepth 100000 in
set_option maxHeartbeats 8000000 in
theorem c_X3_shiftOf (l : Launch) (D : va_G) (y : Nat → ClassId) (z : Nat → Nat) (a : Nat → Nat) (se : Int → Int) (tr : Int → Int) (fi : Int → Int) (la : Int → Int) (sh : Int → Int) (ac : Int → Int) (no : Int) (x1 : Int) (fu : Nat) (rr : Int) (h_ : f_X3_shiftOf fu sh no x1 = some rr) : jCI l D y z yX3_shiftOf wsX3_shiftOf rm_X3_shiftOf [.ref (a 0), .int (jI x1)] [(wRo y a se tr fi la sh ac no)] [(wRo y a se tr fi la sh ac no)] rr := by
  intro sz
  refine jmet (Qc := (fun A => va_Qi (fun v (_ : Unit) => v = jI rr) (jB D A [(wRo y a se tr fi la sh ac no)]) A)) (cc := cX3_shiftOf) (maxL := 2) (ret := (some .int)) (own := RX3) (by decide) rfl (Nat.le_of_ble_eq_true rfl) rfl (fun p e s m R args below meth c A ls hR_ hargs_ hx_ hb_ hr_ hlocks_ hml_ hown_ hts_ hname_ hsz_ hP_ hD_ hA_ hM_ hl_ => ?_)
  have key_ : ∀ Q : State → Prop, (∀ (v9 : Int) (H : Heap) (locs : List Loc) (pc : Nat) (ls : Array Slot), some v9 = some rr → decode cX3_shiftOf pc = .ok (.ireturn, 1) → va_P D vwCl [(wRo y a se tr fi la sh ac no)].flatten H → va_D A [(wRo y a se tr fi la sh ac no)].flatten → va_S A s.heap H locs → W p l e R s m args below meth c H locs 0 0 Q (F0 m pc ls [.int (jI v9)])) → W p l e R s m args below meth c s.heap [] 0 0 Q (F0 m 0 ls []) := by
    intro Q hE_
    have hS_ : va_S A s.heap s.heap [] := va_S.rf
    have hl_ : lv_has ls 2 [(0, .ref (a 0)), (1, .int (jI x1))] := hl_
    have hin_ : ∀ w ∈ u_ws RX3 TX3 7, w ∈ wsX3_shiftOf := by decide +kernel
    unfold f_X3_shiftOf at h_
    refine lv_aload_n hx_ hb_ dX3_shiftOf_0 rfl (lv_at hl_ 0 rfl) ?_
    refine lv_iload_n hx_ hb_ dX3_shiftOf_1 rfl (lv_at hl_ 1 rfl) ?_
    obtain ⟨v1, hv1, h_⟩ := jb_i h_
    refine jx_cvi (wr := []) (cw := [(wRo y a se tr fi la sh ac no)]) (cw1 := [(wRo y a se tr fi la sh ac no)]) (cs1 := [(wRo y a se tr fi la sh ac no)]) (As := [.int (jI x1)]) (rest := []) ⟨hx_, hb_, hml_, hown_, hts_⟩ hM_ hP_ hD_ hS_ hA_ (List.Perm.refl _) (List.Perm.refl _) (c_X3_has l D y z a se tr fi la sh ac no x1 fu v1 hv1) 1 gX3_shiftOf_X3_has rfl ⟨rfl, rfl⟩ (by decide +kernel) ⟨by rw [hR_]; exact Nat.le_of_ble_eq_true rfl, by rw [hR_]; exact Nat.le_of_ble_eq_true rfl⟩ 0 3 rfl rfl rfl rfl rfl hl_.1 (Nat.le_of_ble_eq_true rfl) dX3_shiftOf_2 ⟨Nat.zero_le _, Nat.zero_le _⟩ (fun H locs hP_ hD_ hS_ => ?_)
    refine jx_if_eq (tgt := 17) hx_ hb_ h_ dX3_shiftOf_5 (by decide) (fun h_ => ?_) (fun h_ => ?_)
    · refine lv_iconst (v := jI 0) hx_ hb_ dX3_shiftOf_17 (by decide +kernel) ?_
      exact hE_ _ _ _ _ _ h_ dX3_shiftOf_18 hP_ hD_ hS_
    · refine lv_aload_n hx_ hb_ dX3_shiftOf_8 rfl (lv_at hl_ 0 rfl) ?_
      refine va_get (D := D) (ci := 3) (v := .ref (a 5)) (C := RX3) (T := TX3) (N := 7) hx_ hb_ hts_ hin_ hown_ hM_.1 hP_ 0 rfl rfl 4 (by decide) (hts_ (.fieldLink RX3 24 "MusicHoles$Roll" "shifts" "[I") (by decide +kernel)) (fun _ h9_ => h9_) rfl dX3_shiftOf_9 ?_
      refine lv_iload_n hx_ hb_ dX3_shiftOf_12 rfl (lv_at hl_ 1 rfl) ?_
      refine jx_iald hx_ hb_ hM_ hP_ 5 0 rfl rfl rfl (Nat.le_of_ble_eq_true rfl) h_ dX3_shiftOf_13 (fun h_ => ?_)
      refine lv_goto (tgt := 18) hx_ hb_ dX3_shiftOf_14 (by decide) ?_
      exact hE_ _ _ _ _ _ h_ dX3_shiftOf_18 hP_ hD_ hS_
  exact key_ _ (fun v9 H locs pc ls h9_ hdg_ hP_ hD_ hS_ => by cases h9_; exact jend_i hx_ hb_ hr_ hlocks_ hP_ hD_ hS_ hdg_)
def rm_X3_giveShift : Room := { frames := 1, cells := 0, slots := 0, locals := 21 }
set_option maxRecDepth 100000 in
set_option maxHeartbeats 8000000 in
theorem c_X3_giveShift (l : Launch) (D : va_G) (y : Nat → ClassId) (z : Nat → Nat) (a : Nat → Nat) (se : Int → Int) (tr : Int → Int) (fi : Int → Int) (la : Int → Int) (sh : Int → Int) (ac : Int → Int) (no : Int) (x1 : Int) (x2 : Int) (fu : Nat) (q_sh : Int → Int) (h_ : f_X3_giveShift fu sh no x1 x2 = some q_sh) : jCV l D y z yX3_giveShift wsX3_giveShift rm_X3_giveShift [.ref (a 0), .int (jI x1), .int (jI x2)] [(wRo y a se tr fi la sh ac no)] [(wRo y a se tr fi la q_sh ac no)] := by
  intro sz
  refine jmet (Qc := (fun A => va_Qv (fun (_ : Unit) => True) (jB D A [(wRo y a se tr fi la q_sh ac no)]) A)) (cc := cX3_giveShift) (maxL := 3) (ret := none) (own := RX3) (by decide) rfl (Nat.le_of_ble_eq_true rfl) rfl (fun p e s m R args below meth c A ls hR_ hargs_ hx_ hb_ hr_ hlocks_ hml_ hown_ hts_ hname_ hsz_ hP_ hD_ hA_ hM_ hl_ => ?_)
  have key_ : ∀ Q : State → Prop, (∀ (sh9 : Int → Int) (H : Heap) (locs : List Loc) (pc : Nat) (ls : Array Slot), some sh9 = some q_sh → decode cX3_giveShift pc = .ok (.return_, 1) → va_P D vwCl [(wRo y a se tr fi la sh9 ac no)].flatten H → va_D A [(wRo y a se tr fi la sh9 ac no)].flatten → va_S A s.heap H locs → W p l e R s m args below meth c H locs 0 0 Q (F0 m pc ls [])) → W p l e R s m args below meth c s.heap [] 0 0 Q (F0 m 0 ls []) := by
    intro Q hE_
    have hS_ : va_S A s.heap s.heap [] := va_S.rf
    have hl_ : lv_has ls 3 [(0, .ref (a 0)), (1, .int (jI x1)), (2, .int (jI x2))] := hl_
    have hin_ : ∀ w ∈ u_ws RX3 TX3 7, w ∈ wsX3_giveShift := by decide +kernel
    unfold f_X3_giveShift at h_
    refine lv_aload_n hx_ hb_ dX3_giveShift_0 rfl (lv_at hl_ 0 rfl) ?_
    refine lv_iload_n hx_ hb_ dX3_giveShift_1 rfl (lv_at hl_ 1 rfl) ?_
    obtain ⟨v1, hv1, h_⟩ := jb_i h_
    refine jx_cvi (wr := []) (cw := [(wRo y a se tr fi la sh ac no)]) (cw1 := [(wRo y a se tr fi la sh ac no)]) (cs1 := [(wRo y a se tr fi la sh ac no)]) (As := [.int (jI x1)]) (rest := []) ⟨hx_, hb_, hml_, hown_, hts_⟩ hM_ hP_ hD_ hS_ hA_ (List.Perm.refl _) (List.Perm.refl _) (c_X3_has l D y z a se tr fi la sh ac no x1 fu v1 hv1) 1 gX3_giveShift_X3_has rfl ⟨rfl, rfl⟩ (by decide +kernel) ⟨by rw [hR_]; exact Nat.le_of_ble_eq_true rfl, by rw [hR_]; exact Nat.le_of_ble_eq_true rfl⟩ 0 3 rfl rfl rfl rfl rfl hl_.1 (Nat.le_of_ble_eq_true rfl) dX3_giveShift_2 ⟨Nat.zero_le _, Nat.zero_le _⟩ (fun H locs hP_ hD_ hS_ => ?_)
    refine jx_if_eq (tgt := 15) hx_ hb_ h_ dX3_giveShift_5 (by decide) (fun h_ => ?_) (fun h_ => ?_)
    · exact hE_ _ _ _ _ _ h_ dX3_giveShift_15 hP_ hD_ hS_
    · refine lv_aload_n hx_ hb_ dX3_giveShift_8 rfl (lv_at hl_ 0 rfl) ?_
      refine va_get (D := D) (ci := 3) (v := .ref (a 5)) (C := RX3) (T := TX3) (N := 7) hx_ hb_ hts_ hin_ hown_ hM_.1 hP_ 0 rfl rfl 4 (by decide) (hts_ (.fieldLink RX3 24 "MusicHoles$Roll" "shifts" "[I") (by decide +kernel)) (fun _ h9_ => h9_) rfl dX3_giveShift_9 ?_
      refine lv_iload_n hx_ hb_ dX3_giveShift_12 rfl (lv_at hl_ 1 rfl) ?_
      refine lv_iload_n hx_ hb_ dX3_giveShift_13 rfl (lv_at hl_ 2 rfl) ?_
      refine jx_iast hx_ hb_ hM_ hP_ hD_ hS_ 5 0 rfl rfl rfl (Nat.le_of_ble_eq_true rfl) h_ dX3_giveShift_14 (fun H locs h_ hP_ hD_ hS_ => ?_)
      have hP_ : va_P D vwCl [(wRo y a se tr fi la (uI sh x1 x2) ac no)].flatten H := hP_
      have hD_ : va_D A [(wRo y a se tr fi la (uI sh x1 x2) ac no)].flatten := hD_
      exact hE_ _ _ _ _ _ h_ dX3_giveShift_15 hP_ hD_ hS_
  exact key_ _ (fun sh9 H locs pc ls h9_ hdg_ hP_ hD_ hS_ => by cases h9_; exact jend_v hx_ hb_ hr_ hlocks_ hP_ hD_ hS_ hdg_)
def rm_X3_hasAccent : Room := { frames := 1, cells := 0, slots := 0, locals := 21 }
set_option maxRecDepth 100000 in
set_option maxHeartbeats 8000000 in
theorem c_X3_hasAccent (l : Launch) (D : va_G) (y : Nat → ClassId) (z : Nat → Nat) (a : Nat → Nat) (se : Int → Int) (tr : Int → Int) (fi : Int → Int) (la : Int → Int) (sh : Int → Int) (ac : Int → Int) (no : Int) (x1 : Int) (fu : Nat) (rr : Int) (h_ : f_X3_hasAccent fu ac no x1 = some rr) : jCI l D y z yX3_hasAccent wsX3_hasAccent rm_X3_hasAccent [.ref (a 0), .int (jI x1)] [(wRo y a se tr fi la sh ac no)] [(wRo y a se tr fi la sh ac no)] rr := by
  intro sz
  refine jmet (Qc := (fun A => va_Qi (fun v (_ : Unit) => v = jI rr) (jB D A [(wRo y a se tr fi la sh ac no)]) A)) (cc := cX3_hasAccent) (maxL := 2) (ret := (some .boolean)) (own := RX3) (by decide) rfl (Nat.le_of_ble_eq_true rfl) rfl (fun p e s m R args below meth c A ls hR_ hargs_ hx_ hb_ hr_ hlocks_ hml_ hown_ hts_ hname_ hsz_ hP_ hD_ hA_ hM_ hl_ => ?_)
  have key_ : ∀ Q : State → Prop, (∀ (v9 : Int) (H : Heap) (locs : List Loc) (pc : Nat) (ls : Array Slot), some v9 = some rr → (v9 = 0 ∨ v9 = 1) → decode cX3_hasAccent pc = .ok (.ireturn, 1) → va_P D vwCl [(wRo y a se tr fi la sh ac no)].flatten H → va_D A [(wRo y a se tr fi la sh ac no)].flatten → va_S A s.heap H locs → W p l e R s m args below meth c H locs 0 0 Q (F0 m pc ls [.int (jI v9)])) → W p l e R s m args below meth c s.heap [] 0 0 Q (F0 m 0 ls []) := by
    intro Q hE_
    have hS_ : va_S A s.heap s.heap [] := va_S.rf
    have hl_ : lv_has ls 2 [(0, .ref (a 0)), (1, .int (jI x1))] := hl_
    have hin_ : ∀ w ∈ u_ws RX3 TX3 7, w ∈ wsX3_hasAccent := by decide +kernel
    unfold f_X3_hasAccent at h_
    refine lv_aload_n hx_ hb_ dX3_hasAccent_0 rfl (lv_at hl_ 0 rfl) ?_
    refine lv_iload_n hx_ hb_ dX3_hasAccent_1 rfl (lv_at hl_ 1 rfl) ?_
    obtain ⟨v1, hv1, h_⟩ := jb_i h_
    refine jx_cvi (wr := []) (cw := [(wRo y a se tr fi la sh ac no)]) (cw1 := [(wRo y a se tr fi la sh ac no)]) (cs1 := [(wRo y a se tr fi la sh ac no)]) (As := [.int (jI x1)]) (rest := []) ⟨hx_, hb_, hml_, hown_, hts_⟩ hM_ hP_ hD_ hS_ hA_ (List.Perm.refl _) (List.Perm.refl _) (c_X3_has l D y z a se tr fi la sh ac no x1 fu v1 hv1) 1 gX3_hasAccent_X3_has rfl ⟨rfl, rfl⟩ (by decide +kernel) ⟨by rw [hR_]; exact Nat.le_of_ble_eq_true rfl, by rw [hR_]; exact Nat.le_of_ble_eq_true rfl⟩ 0 3 rfl rfl rfl rfl rfl hl_.1 (Nat.le_of_ble_eq_true rfl) dX3_hasAccent_2 ⟨Nat.zero_le _, Nat.zero_le _⟩ (fun H locs hP_ hD_ hS_ => ?_)
    refine jx_if_eq (tgt := 21) hx_ hb_ h_ dX3_hasAccent_5 (by decide) (fun h_ => ?_) (fun h_ => ?_)
    · refine lv_iconst (v := jI 0) hx_ hb_ dX3_hasAccent_21 (by decide +kernel) ?_
      obtain ⟨hz_, h_⟩ := jbo_i h_
      exact hE_ _ _ _ _ _ h_ hz_ dX3_hasAccent_22 hP_ hD_ hS_
    · refine lv_aload_n hx_ hb_ dX3_hasAccent_8 rfl (lv_at hl_ 0 rfl) ?_
      refine va_get (D := D) (ci := 3) (v := .ref (a 6)) (C := RX3) (T := TX3) (N := 7) hx_ hb_ hts_ hin_ hown_ hM_.1 hP_ 0 rfl rfl 5 (by decide) (hts_ (.fieldLink RX3 27 "MusicHoles$Roll" "accents" "[Z") (by decide +kernel)) (fun _ h9_ => h9_) rfl dX3_hasAccent_9 ?_
      refine lv_iload_n hx_ hb_ dX3_hasAccent_12 rfl (lv_at hl_ 1 rfl) ?_
      refine jx_zald hx_ hb_ hM_ hP_ 6 1 rfl rfl rfl (Nat.le_of_ble_eq_true rfl) h_ dX3_hasAccent_13 (fun h_ => ?_)
      refine jx_if_eq (tgt := 21) hx_ hb_ h_ dX3_hasAccent_14 (by decide) (fun h_ => ?_) (fun h_ => ?_)
      · refine lv_iconst (v := jI 0) hx_ hb_ dX3_hasAccent_21 (by decide +kernel) ?_
        obtain ⟨hz_, h_⟩ := jbo_i h_
        exact hE_ _ _ _ _ _ h_ hz_ dX3_hasAccent_22 hP_ hD_ hS_
      · refine lv_iconst (v := jI 1) hx_ hb_ dX3_hasAccent_17 (by decide +kernel) ?_
        refine lv_goto (tgt := 22) hx_ hb_ dX3_hasAccent_18 (by decide) ?_
        obtain ⟨hz_, h_⟩ := jbo_i h_
        exact hE_ _ _ _ _ _ h_ hz_ dX3_hasAccent_22 hP_ hD_ hS_
  exact key_ _ (fun v9 H locs pc ls h9_ hz_ hdg_ hP_ hD_ hS_ => by cases h9_; exact jend_z hx_ hb_ hr_ hlocks_ hz_ hP_ hD_ hS_ hdg_)
def rm_X3_giveAccent : Room := { frames := 1, cells := 0, slots := 0, locals := 21 }
set_option maxRecDepth 100000 in
set_option maxHeartbeats 8000000 in
theorem c_X3_giveAccent (l : Launch) (D : va_G) (y : Nat → ClassId) (z : Nat → Nat) (a : Nat → Nat) (se : Int → Int) (tr : Int → Int) (fi : Int → Int) (la : Int → Int) (sh : Int → Int) (ac : Int → Int) (no : Int) (x1 : Int) (x2 : Int) (fu : Nat) (q_ac : Int → Int) (h_ : f_X3_giveAccent fu ac no x1 x2 = some q_ac) : jCV l D y z yX3_giveAccent wsX3_giveAccent rm_X3_giveAccent [.ref (a 0), .int (jI x1), .int (jI x2)] [(wRo y a se tr fi la sh ac no)] [(wRo y a se tr fi la sh q_ac no)] := by
  intro sz
  refine jmet (Qc := (fun A => va_Qv (fun (_ : Unit) => True) (jB D A [(wRo y a se tr fi la sh q_ac no)]) A)) (cc := cX3_giveAccent) (maxL := 3) (ret := none) (own := RX3) (by decide) rfl (Nat.le_of_ble_eq_true rfl) rfl (fun p e s m R args below meth c A ls hR_ hargs_ hx_ hb_ hr_ hlocks_ hml_ hown_ hts_ hname_ hsz_ hP_ hD_ hA_ hM_ hl_ => ?_)
  have key_ : ∀ Q : State → Prop, (∀ (ac9 : Int → Int) (H : Heap) (locs : List Loc) (pc : Nat) (ls : Array Slot), some ac9 = some q_ac → decode cX3_giveAccent pc = .ok (.return_, 1) → va_P D vwCl [(wRo y a se tr fi la sh ac9 no)].flatten H → va_D A [(wRo y a se tr fi la sh ac9 no)].flatten → va_S A s.heap H locs → W p l e R s m args below meth c H locs 0 0 Q (F0 m pc ls [])) → W p l e R s m args below meth c s.heap [] 0 0 Q (F0 m 0 ls []) := by
    intro Q hE_
    have hS_ : va_S A s.heap s.heap [] := va_S.rf
    have hl_ : lv_has ls 3 [(0, .ref (a 0)), (1, .int (jI x1)), (2, .int (jI x2))] := hl_
    have hin_ : ∀ w ∈ u_ws RX3 TX3 7, w ∈ wsX3_giveAccent := by decide +kernel
    unfold f_X3_giveAccent at h_
    refine lv_aload_n hx_ hb_ dX3_giveAccent_0 rfl (lv_at hl_ 0 rfl) ?_
    refine lv_iload_n hx_ hb_ dX3_giveAccent_1 rfl (lv_at hl_ 1 rfl) ?_
    obtain ⟨v1, hv1, h_⟩ := jb_i h_
    refine jx_cvi (wr := []) (cw := [(wRo y a se tr fi la sh ac no)]) (cw1 := [(wRo y a se tr fi la sh ac no)]) (cs1 := [(wRo y a se tr fi la sh ac no)]) (As := [.int (jI x1)]) (rest := []) ⟨hx_, hb_, hml_, hown_, hts_⟩ hM_ hP_ hD_ hS_ hA_ (List.Perm.refl _) (List.Perm.refl _) (c_X3_has l D y z a se tr fi la sh ac no x1 fu v1 hv1) 1 gX3_giveAccent_X3_has rfl ⟨rfl, rfl⟩ (by decide +kernel) ⟨by rw [hR_]; exact Nat.le_of_ble_eq_true rfl, by rw [hR_]; exact Nat.le_of_ble_eq_true rfl⟩ 0 3 rfl rfl rfl rfl rfl hl_.1 (Nat.le_of_ble_eq_true rfl) dX3_giveAccent_2 ⟨Nat.zero_le _, Nat.zero_le _⟩ (fun H locs hP_ hD_ hS_ => ?_)
    refine jx_if_eq (tgt := 15) hx_ hb_ h_ dX3_giveAccent_5 (by decide) (fun h_ => ?_) (fun h_ => ?_)
    · exact hE_ _ _ _ _ _ h_ dX3_giveAccent_15 hP_ hD_ hS_
    · refine lv_aload_n hx_ hb_ dX3_giveAccent_8 rfl (lv_at hl_ 0 rfl) ?_
      refine va_get (D := D) (ci := 3) (v := .ref (a 6)) (C := RX3) (T := TX3) (N := 7) hx_ hb_ hts_ hin_ hown_ hM_.1 hP_ 0 rfl rfl 5 (by decide) (hts_ (.fieldLink RX3 27 "MusicHoles$Roll" "accents" "[Z") (by decide +kernel)) (fun _ h9_ => h9_) rfl dX3_giveAccent_9 ?_
      refine lv_iload_n hx_ hb_ dX3_giveAccent_12 rfl (lv_at hl_ 1 rfl) ?_
      refine lv_iload_n hx_ hb_ dX3_giveAccent_13 rfl (lv_at hl_ 2 rfl) ?_
      refine jx_zast hx_ hb_ hM_ hP_ hD_ hS_ 6 1 rfl rfl rfl (Nat.le_of_ble_eq_true rfl) h_ dX3_giveAccent_14 (fun H locs h_ hP_ hD_ hS_ => ?_)
      have hP_ : va_P D vwCl [(wRo y a se tr fi la sh (uI ac x1 x2) no)].flatten H := hP_
      have hD_ : va_D A [(wRo y a se tr fi la sh (uI ac x1 x2) no)].flatten := hD_
      exact hE_ _ _ _ _ _ h_ dX3_giveAccent_15 hP_ hD_ hS_
  exact key_ _ (fun ac9 H locs pc ls h9_ hdg_ hP_ hD_ hS_ => by cases h9_; exact jend_v hx_ hb_ hr_ hlocks_ hP_ hD_ hS_ hdg_)
def rm_X3_greatestLast : Room := { frames := 2, cells := 0, slots := 0, locals := 42 }
set_option maxRecDepth 100000 in
set_option maxHeartbeats 8000000 in
theorem c_X3_greatestLast (l : Launch) (D : va_G) (y : Nat → ClassId) (z : Nat → Nat) (a : Nat → Nat) (se : Int → Int) (tr : Int → Int) (fi : Int → Int) (la : Int → Int) (sh : Int → Int) (ac : Int → Int) (no : Int)  (fu : Nat) (rr : Int) (h_ : f_X3_greatestLast fu la no = some rr) : jCI l D y z yX3_greatestLast wsX3_greatestLast rm_X3_greatestLast [.ref (a 0)] [(wRo y a se tr fi la sh ac no)] [(wRo y a se tr fi la sh ac no)] rr := by
  intro sz
  refine jmet (Qc := (fun A => va_Qi (fun v (_ : Unit) => v = jI rr) (jB D A [(wRo y a se tr fi la sh ac no)]) A)) (cc := cX3_greatestLast) (maxL := 3) (ret := (some .int)) (own := RX3) (by decide) rfl (Nat.le_of_ble_eq_true rfl) rfl (fun p e s m R args below meth c A ls hR_ hargs_ hx_ hb_ hr_ hlocks_ hml_ hown_ hts_ hname_ hsz_ hP_ hD_ hA_ hM_ hl_ => ?_)
  have key_ : ∀ Q : State → Prop, (∀ (v9 : Int) (H : Heap) (locs : List Loc) (pc : Nat) (ls : Array Slot), some v9 = some rr → decode cX3_greatestLast pc = .ok (.ireturn, 1) → va_P D vwCl [(wRo y a se tr fi la sh ac no)].flatten H → va_D A [(wRo y a se tr fi la sh ac no)].flatten → va_S A s.heap H locs → W p l e R s m args below meth c H locs 0 0 Q (F0 m pc ls [.int (jI v9)])) → W p l e R s m args below meth c s.heap [] 0 0 Q (F0 m 0 ls []) := by
    intro Q hE_
    have hS_ : va_S A s.heap s.heap [] := va_S.rf
    have hl_ : lv_has ls 3 [(0, .ref (a 0))] := hl_
    have hin_ : ∀ w ∈ u_ws RX3 TX3 7, w ∈ wsX3_greatestLast := by decide +kernel
    unfold f_X3_greatestLast at h_
    refine lv_iconst (v := jI (-1)) hx_ hb_ dX3_greatestLast_0 (by decide +kernel) ?_
    refine lv_istore_n (lv' := [(1, .int (jI (-1))), (0, .ref (a 0))]) hx_ hb_ dX3_greatestLast_1 rfl hl_ (by decide) rfl (fun ls hl_ => ?_)
    refine lv_iconst (v := jI 0) hx_ hb_ dX3_greatestLast_2 (by decide +kernel) ?_
    refine lv_istore_n (lv' := [(2, .int (jI 0)), (1, .int (jI (-1))), (0, .ref (a 0))]) hx_ hb_ dX3_greatestLast_3 rfl hl_ (by decide) rfl (fun ls hl_ => ?_)
    have hX28 : ∀ (v1 : Int) (H : Heap) (locs : List Loc) (ls : Array Slot), f_X3_greatestLast_X28 fu v1 = some rr → va_P D vwCl [(wRo y a se tr fi la sh ac no)].flatten H → va_D A [(wRo y a se tr fi la sh ac no)].flatten → va_S A s.heap H locs → lv_has ls 3 [(1, .int (jI v1))] → W p l e R s m args below meth c H locs 0 0 Q (F0 m 28 ls []) := by
      intro v1 H locs ls h_ hP_ hD_ hS_ hl_
      unfold f_X3_greatestLast_X28 at h_
      refine lv_iload_n hx_ hb_ dX3_greatestLast_28 rfl (lv_at hl_ 0 rfl) ?_
      exact hE_ _ _ _ _ _ h_ dX3_greatestLast_29 hP_ hD_ hS_
    have hL4 : ∀ n4 : Nat, ∀ (v2 : Int) (v3 : Int) (H : Heap) (locs : List Loc) (ls : Array Slot), f_X3_greatestLast_L4 fu la no (f_X3_greatestLast_X28 fu) n4 v2 v3 = some rr → va_P D vwCl [(wRo y a se tr fi la sh ac no)].flatten H → va_D A [(wRo y a se tr fi la sh ac no)].flatten → va_S A s.heap H locs → lv_has ls 3 [(0, .ref (a 0)), (1, .int (jI v2)), (2, .int (jI v3))] → W p l e R s m args below meth c H locs 0 0 Q (F0 m 4 ls []) := by
      intro n4
      induction n4 with
      | zero => intro _ _ H locs ls h_; have h_ : (none : Option (Int)) = some rr := h_; cases h_
      | succ n4 ih4 =>
        intro v2 v3 H locs ls h_ hP_ hD_ hS_ hl_
        replace h_ : f_X3_greatestLast_L4_b fu la no (f_X3_greatestLast_X28 fu) (f_X3_greatestLast_L4 fu la no (f_X3_greatestLast_X28 fu) n4) v2 v3 = some rr := h_
        unfold f_X3_greatestLast_L4_b at h_
        refine lv_iload_n hx_ hb_ dX3_greatestLast_4 rfl (lv_at hl_ 2 rfl) ?_
        refine lv_aload_n hx_ hb_ dX3_greatestLast_5 rfl (lv_at hl_ 0 rfl) ?_
        refine va_get (D := D) (ci := 3) (v := .int (jI no)) (C := RX3) (T := TX3) (N := 7) hx_ hb_ hts_ hin_ hown_ hM_.1 hP_ 0 rfl rfl 6 (by decide) (hts_ (.fieldLink RX3 44 "MusicHoles$Roll" "notes" "I") (by decide +kernel)) (fun _ h9_ => h9_) rfl dX3_greatestLast_6 ?_
        refine jx_icmp_ge (tgt := 28) hx_ hb_ h_ dX3_greatestLast_9 (by decide) (fun h_ => ?_) (fun h_ => ?_)
        · exact hX28 _ _ _ ls h_ hP_ hD_ hS_ (lv_sub hl_ [1] rfl)
        · refine lv_iload_n hx_ hb_ dX3_greatestLast_12 rfl (lv_at hl_ 1 rfl) ?_
          refine lv_aload_n hx_ hb_ dX3_greatestLast_13 rfl (lv_at hl_ 0 rfl) ?_
          refine lv_iload_n hx_ hb_ dX3_greatestLast_14 rfl (lv_at hl_ 2 rfl) ?_
          obtain ⟨v4, hv4, h_⟩ := jb_i h_
          refine jx_cvi (wr := []) (cw := [(wRo y a se tr fi la sh ac no)]) (cw1 := [(wRo y a se tr fi la sh ac no)]) (cs1 := [(wRo y a se tr fi la sh ac no)]) (As := [.int (jI v3)]) (rest := [.int (jI v2)]) ⟨hx_, hb_, hml_, hown_, hts_⟩ hM_ hP_ hD_ hS_ hA_ (List.Perm.refl _) (List.Perm.refl _) (c_X3_lastOf l D y z a se tr fi la sh ac no v3 fu v4 hv4) 1 gX3_greatestLast_X3_lastOf rfl ⟨rfl, rfl⟩ (by decide +kernel) ⟨by rw [hR_]; exact Nat.le_of_ble_eq_true rfl, by rw [hR_]; exact Nat.le_of_ble_eq_true rfl⟩ 0 3 rfl rfl rfl rfl rfl hl_.1 (Nat.le_of_ble_eq_true rfl) dX3_greatestLast_15 ⟨Nat.zero_le _, Nat.zero_le _⟩ (fun H locs hP_ hD_ hS_ => ?_)
          refine jx_mmax hx_ hb_ (hml_.trans hl_.1.symm) hown_ (hts_ (.methodLink RX3 78 Lib.Math.max.name) (by decide +kernel)) (hts_ (.static Lib.Math.max.name) (by decide +kernel)) (hts_ (.initialized "java/lang/Math") (by decide +kernel)) (hts_ (.code Lib.Math.max.name Lib.Math.max.code 2 (some .int)) (by decide +kernel)) (by rw [hR_]; exact Nat.le_of_ble_eq_true rfl) (by rw [hR_]; exact Nat.le_of_ble_eq_true rfl) (Nat.zero_le _) (Nat.zero_le _) h_ dX3_greatestLast_18 (fun h_ => ?_)
          refine lv_istore_n (lv' := [(1, .int (jI (jmax v2 v4))), (0, .ref (a 0)), (2, .int (jI v3))]) hx_ hb_ dX3_greatestLast_21 rfl hl_ (by decide) rfl (fun ls hl_ => ?_)
          refine lv_iinc (v := jI (v3 + 1)) (lv' := [(2, .int (jI (v3 + 1))), (1, .int (jI (jmax v2 v4))), (0, .ref (a 0))]) hx_ hb_ dX3_greatestLast_22 hl_ (k := 2) rfl (jI_add _ _) (by decide) rfl (fun ls hl_ => ?_)
          refine lv_goto (tgt := 4) hx_ hb_ dX3_greatestLast_25 (by decide) ?_
          exact ih4 _ _ _ _ ls h_ hP_ hD_ hS_ (lv_sub hl_ [2, 1, 0] rfl)
    exact hL4 fu _ _ _ _ ls h_ hP_ hD_ hS_ (lv_sub hl_ [2, 1, 0] rfl)
  exact key_ _ (fun v9 H locs pc ls h9_ hdg_ hP_ hD_ hS_ => by cases h9_; exact jend_i hx_ hb_ hr_ hlocks_ hP_ hD_ hS_ hdg_)
def rm_X3_lengthen : Room := { frames := 0, cells := 0, slots := 0, locals := 0 }
set_option maxRecDepth 100000 in
set_option maxHeartbeats 8000000 in
theorem c_X3_lengthen (l : Launch) (D : va_G) (y : Nat → ClassId) (z : Nat → Nat) (a : Nat → Nat) (se : Int → Int) (tr : Int → Int) (fi : Int → Int) (la : Int → Int) (sh : Int → Int) (ac : Int → Int) (no : Int) (x1 : Int) (x2 : Int) (fu : Nat) (rr : Int) (q_fi : Int → Int) (q_la : Int → Int) (h_ : f_X3_lengthen fu fi la no x1 x2 = some (rr, q_fi, q_la)) : jCI l D y z yX3_lengthen wsX3_lengthen rm_X3_lengthen [.ref (a 0), .int (jI x1), .int (jI x2)] [(wRo y a se tr fi la sh ac no)] [(wRo y a se tr q_fi q_la sh ac no)] rr := by
  intro sz
  refine jmet (Qc := (fun A => va_Qi (fun v (_ : Unit) => v = jI rr) (jB D A [(wRo y a se tr q_fi q_la sh ac no)]) A)) (cc := cX3_lengthen) (maxL := 5) (ret := (some .int)) (own := RX3) (by decide) rfl (Nat.le_of_ble_eq_true rfl) rfl (fun p e s m R args below meth c A ls hR_ hargs_ hx_ hb_ hr_ hlocks_ hml_ hown_ hts_ hname_ hsz_ hP_ hD_ hA_ hM_ hl_ => ?_)
  have key_ : ∀ Q : State → Prop, (∀ (v9 : Int) (fi9 : Int → Int) (la9 : Int → Int) (H : Heap) (locs : List Loc) (pc : Nat) (ls : Array Slot), some (v9, fi9, la9) = some (rr, q_fi, q_la) → decode cX3_lengthen pc = .ok (.ireturn, 1) → va_P D vwCl [(wRo y a se tr fi9 la9 sh ac no)].flatten H → va_D A [(wRo y a se tr fi9 la9 sh ac no)].flatten → va_S A s.heap H locs → W p l e R s m args below meth c H locs 0 0 Q (F0 m pc ls [.int (jI v9)])) → W p l e R s m args below meth c s.heap [] 0 0 Q (F0 m 0 ls []) := by
    intro Q hE_
    have hS_ : va_S A s.heap s.heap [] := va_S.rf
    have hl_ : lv_has ls 5 [(0, .ref (a 0)), (1, .int (jI x1)), (2, .int (jI x2))] := hl_
    have hin_ : ∀ w ∈ u_ws RX3 TX3 7, w ∈ wsX3_lengthen := by decide +kernel
    unfold f_X3_lengthen at h_
    refine lv_iconst (v := jI 0) hx_ hb_ dX3_lengthen_0 (by decide +kernel) ?_
    refine lv_istore_n (lv' := [(3, .int (jI 0)), (0, .ref (a 0)), (1, .int (jI x1)), (2, .int (jI x2))]) hx_ hb_ dX3_lengthen_1 rfl hl_ (by decide) rfl (fun ls hl_ => ?_)
    refine lv_iconst (v := jI 0) hx_ hb_ dX3_lengthen_2 (by decide +kernel) ?_
    refine lv_istore (lv' := [(4, .int (jI 0)), (3, .int (jI 0)), (0, .ref (a 0)), (1, .int (jI x1)), (2, .int (jI x2))]) hx_ hb_ dX3_lengthen_3 hl_ (by decide) rfl (fun ls hl_ => ?_)
    have hX88 : ∀ (fi_m1 : Int → Int) (la_m2 : Int → Int) (v3 : Int) (H : Heap) (locs : List Loc) (ls : Array Slot), f_X3_lengthen_X88 fu fi_m1 la_m2 v3 = some (rr, q_fi, q_la) → va_P D vwCl [(wRo y a se tr fi_m1 la_m2 sh ac no)].flatten H → va_D A [(wRo y a se tr fi_m1 la_m2 sh ac no)].flatten → va_S A s.heap H locs → lv_has ls 5 [(3, .int (jI v3))] → W p l e R s m args below meth c H locs 0 0 Q (F0 m 88 ls []) := by
      intro fi_m1 la_m2 v3 H locs ls h_ hP_ hD_ hS_ hl_
      unfold f_X3_lengthen_X88 at h_
      refine lv_iload_n hx_ hb_ dX3_lengthen_88 rfl (lv_at hl_ 0 rfl) ?_
      exact hE_ _ _ _ _ _ _ _ h_ dX3_lengthen_89 hP_ hD_ hS_
    have hL5 : ∀ n5 : Nat, ∀ (fi_m4 : Int → Int) (la_m5 : Int → Int) (v6 : Int) (v7 : Int) (H : Heap) (locs : List Loc) (ls : Array Slot), f_X3_lengthen_L5 fu no x1 x2 (f_X3_lengthen_X88 fu) n5 fi_m4 la_m5 v6 v7 = some (rr, q_fi, q_la) → va_P D vwCl [(wRo y a se tr fi_m4 la_m5 sh ac no)].flatten H → va_D A [(wRo y a se tr fi_m4 la_m5 sh ac no)].flatten → va_S A s.heap H locs → lv_has ls 5 [(0, .ref (a 0)), (1, .int (jI x1)), (2, .int (jI x2)), (3, .int (jI v6)), (4, .int (jI v7))] → W p l e R s m args below meth c H locs 0 0 Q (F0 m 5 ls []) := by
      intro n5
      induction n5 with
      | zero => intro _ _ _ _ H locs ls h_; have h_ : (none : Option (Int × (Int → Int) × (Int → Int))) = some (rr, q_fi, q_la) := h_; cases h_
      | succ n5 ih5 =>
        intro fi_m4 la_m5 v6 v7 H locs ls h_ hP_ hD_ hS_ hl_
        replace h_ : f_X3_lengthen_L5_b fu no x1 x2 (f_X3_lengthen_X88 fu) (f_X3_lengthen_L5 fu no x1 x2 (f_X3_lengthen_X88 fu) n5) fi_m4 la_m5 v6 v7 = some (rr, q_fi, q_la) := h_
        unfold f_X3_lengthen_L5_b at h_
        refine lv_iload hx_ hb_ dX3_lengthen_5 (lv_at hl_ 4 rfl) ?_
        refine lv_aload_n hx_ hb_ dX3_lengthen_7 rfl (lv_at hl_ 0 rfl) ?_
        refine va_get (D := D) (ci := 3) (v := .int (jI no)) (C := RX3) (T := TX3) (N := 7) hx_ hb_ hts_ hin_ hown_ hM_.1 hP_ 0 rfl rfl 6 (by decide) (hts_ (.fieldLink RX3 44 "MusicHoles$Roll" "notes" "I") (by decide +kernel)) (fun _ h9_ => h9_) rfl dX3_lengthen_8 ?_
        refine jx_icmp_ge (tgt := 88) hx_ hb_ h_ dX3_lengthen_11 (by decide) (fun h_ => ?_) (fun h_ => ?_)
        · exact hX88 _ _ _ _ _ ls h_ hP_ hD_ hS_ (lv_sub hl_ [3] rfl)
        · refine lv_iload hx_ hb_ dX3_lengthen_14 (lv_at hl_ 4 rfl) ?_
          refine lv_bipush (v := jI 40) hx_ hb_ dX3_lengthen_16 (by decide +kernel) ?_
          refine jx_icmp_ge (tgt := 88) hx_ hb_ h_ dX3_lengthen_18 (by decide) (fun h_ => ?_) (fun h_ => ?_)
          · exact hX88 _ _ _ _ _ ls h_ hP_ hD_ hS_ (lv_sub hl_ [3] rfl)
          · refine lv_aload_n hx_ hb_ dX3_lengthen_21 rfl (lv_at hl_ 0 rfl) ?_
            refine va_get (D := D) (ci := 3) (v := .ref (a 3)) (C := RX3) (T := TX3) (N := 7) hx_ hb_ hts_ hin_ hown_ hM_.1 hP_ 0 rfl rfl 2 (by decide) (hts_ (.fieldLink RX3 18 "MusicHoles$Roll" "firsts" "[I") (by decide +kernel)) (fun _ h9_ => h9_) rfl dX3_lengthen_22 ?_
            refine lv_iload hx_ hb_ dX3_lengthen_25 (lv_at hl_ 4 rfl) ?_
            refine jx_iald hx_ hb_ hM_ hP_ 3 0 rfl rfl rfl (Nat.le_of_ble_eq_true rfl) h_ dX3_lengthen_27 (fun h_ => ?_)
            refine lv_iload_n hx_ hb_ dX3_lengthen_28 rfl (lv_at hl_ 1 rfl) ?_
            refine jx_icmp_lt (tgt := 57) hx_ hb_ h_ dX3_lengthen_29 (by decide) (fun h_ => ?_) (fun h_ => ?_)
            · refine lv_aload_n hx_ hb_ dX3_lengthen_57 rfl (lv_at hl_ 0 rfl) ?_
              refine va_get (D := D) (ci := 3) (v := .ref (a 4)) (C := RX3) (T := TX3) (N := 7) hx_ hb_ hts_ hin_ hown_ hM_.1 hP_ 0 rfl rfl 3 (by decide) (hts_ (.fieldLink RX3 21 "MusicHoles$Roll" "lasts" "[I") (by decide +kernel)) (fun _ h9_ => h9_) rfl dX3_lengthen_58 ?_
              refine lv_iload hx_ hb_ dX3_lengthen_61 (lv_at hl_ 4 rfl) ?_
              refine jx_iald hx_ hb_ hM_ hP_ 4 0 rfl rfl rfl (Nat.le_of_ble_eq_true rfl) h_ dX3_lengthen_63 (fun h_ => ?_)
              refine lv_iload_n hx_ hb_ dX3_lengthen_64 rfl (lv_at hl_ 1 rfl) ?_
              refine jx_icmp_lt (tgt := 82) hx_ hb_ h_ dX3_lengthen_65 (by decide) (fun h_ => ?_) (fun h_ => ?_)
              · refine lv_iinc (v := jI (v7 + 1)) (lv' := [(4, .int (jI (v7 + 1))), (0, .ref (a 0)), (1, .int (jI x1)), (2, .int (jI x2)), (3, .int (jI v6))]) hx_ hb_ dX3_lengthen_82 hl_ (k := 4) rfl (jI_add _ _) (by decide) rfl (fun ls hl_ => ?_)
                refine lv_goto (tgt := 5) hx_ hb_ dX3_lengthen_85 (by decide) ?_
                exact ih5 _ _ _ _ _ _ ls h_ hP_ hD_ hS_ (lv_sub hl_ [1, 2, 3, 4, 0] rfl)
              · refine lv_aload_n hx_ hb_ dX3_lengthen_68 rfl (lv_at hl_ 0 rfl) ?_
                refine va_get (D := D) (ci := 3) (v := .ref (a 4)) (C := RX3) (T := TX3) (N := 7) hx_ hb_ hts_ hin_ hown_ hM_.1 hP_ 0 rfl rfl 3 (by decide) (hts_ (.fieldLink RX3 21 "MusicHoles$Roll" "lasts" "[I") (by decide +kernel)) (fun _ h9_ => h9_) rfl dX3_lengthen_69 ?_
                refine lv_iload hx_ hb_ dX3_lengthen_72 (lv_at hl_ 4 rfl) ?_
                refine lv_dup2_11 hx_ hb_ dX3_lengthen_74 rfl rfl ?_
                refine jx_iald hx_ hb_ hM_ hP_ 4 0 rfl rfl rfl (Nat.le_of_ble_eq_true rfl) h_ dX3_lengthen_75 (fun h_ => ?_)
                refine lv_iload_n hx_ hb_ dX3_lengthen_76 rfl (lv_at hl_ 2 rfl) ?_
                refine jx_iadd hx_ hb_ dX3_lengthen_77 ?_
                refine jx_iast hx_ hb_ hM_ hP_ hD_ hS_ 4 0 rfl rfl rfl (Nat.le_of_ble_eq_true rfl) h_ dX3_lengthen_78 (fun H locs h_ hP_ hD_ hS_ => ?_)
                have hP_ : va_P D vwCl [(wRo y a se tr fi_m4 (uI la_m5 v7 ((la_m5 v7) + x2)) sh ac no)].flatten H := hP_
                have hD_ : va_D A [(wRo y a se tr fi_m4 (uI la_m5 v7 ((la_m5 v7) + x2)) sh ac no)].flatten := hD_
                refine lv_iinc (v := jI (v6 + 1)) (lv' := [(3, .int (jI (v6 + 1))), (0, .ref (a 0)), (1, .int (jI x1)), (2, .int (jI x2)), (4, .int (jI v7))]) hx_ hb_ dX3_lengthen_79 hl_ (k := 3) rfl (jI_add _ _) (by decide) rfl (fun ls hl_ => ?_)
                refine lv_iinc (v := jI (v7 + 1)) (lv' := [(4, .int (jI (v7 + 1))), (3, .int (jI (v6 + 1))), (0, .ref (a 0)), (1, .int (jI x1)), (2, .int (jI x2))]) hx_ hb_ dX3_lengthen_82 hl_ (k := 4) rfl (jI_add _ _) (by decide) rfl (fun ls hl_ => ?_)
                refine lv_goto (tgt := 5) hx_ hb_ dX3_lengthen_85 (by decide) ?_
                exact ih5 _ _ _ _ _ _ ls h_ hP_ hD_ hS_ (lv_sub hl_ [2, 3, 4, 1, 0] rfl)
            · refine lv_aload_n hx_ hb_ dX3_lengthen_32 rfl (lv_at hl_ 0 rfl) ?_
              refine va_get (D := D) (ci := 3) (v := .ref (a 3)) (C := RX3) (T := TX3) (N := 7) hx_ hb_ hts_ hin_ hown_ hM_.1 hP_ 0 rfl rfl 2 (by decide) (hts_ (.fieldLink RX3 18 "MusicHoles$Roll" "firsts" "[I") (by decide +kernel)) (fun _ h9_ => h9_) rfl dX3_lengthen_33 ?_
              refine lv_iload hx_ hb_ dX3_lengthen_36 (lv_at hl_ 4 rfl) ?_
              refine lv_dup2_11 hx_ hb_ dX3_lengthen_38 rfl rfl ?_
              refine jx_iald hx_ hb_ hM_ hP_ 3 0 rfl rfl rfl (Nat.le_of_ble_eq_true rfl) h_ dX3_lengthen_39 (fun h_ => ?_)
              refine lv_iload_n hx_ hb_ dX3_lengthen_40 rfl (lv_at hl_ 2 rfl) ?_
              refine jx_iadd hx_ hb_ dX3_lengthen_41 ?_
              refine jx_iast hx_ hb_ hM_ hP_ hD_ hS_ 3 0 rfl rfl rfl (Nat.le_of_ble_eq_true rfl) h_ dX3_lengthen_42 (fun H locs h_ hP_ hD_ hS_ => ?_)
              have hP_ : va_P D vwCl [(wRo y a se tr (uI fi_m4 v7 ((fi_m4 v7) + x2)) la_m5 sh ac no)].flatten H := hP_
              have hD_ : va_D A [(wRo y a se tr (uI fi_m4 v7 ((fi_m4 v7) + x2)) la_m5 sh ac no)].flatten := hD_
              refine lv_aload_n hx_ hb_ dX3_lengthen_43 rfl (lv_at hl_ 0 rfl) ?_
              refine va_get (D := D) (ci := 3) (v := .ref (a 4)) (C := RX3) (T := TX3) (N := 7) hx_ hb_ hts_ hin_ hown_ hM_.1 hP_ 0 rfl rfl 3 (by decide) (hts_ (.fieldLink RX3 21 "MusicHoles$Roll" "lasts" "[I") (by decide +kernel)) (fun _ h9_ => h9_) rfl dX3_lengthen_44 ?_
              refine lv_iload hx_ hb_ dX3_lengthen_47 (lv_at hl_ 4 rfl) ?_
              refine lv_dup2_11 hx_ hb_ dX3_lengthen_49 rfl rfl ?_
              refine jx_iald hx_ hb_ hM_ hP_ 4 0 rfl rfl rfl (Nat.le_of_ble_eq_true rfl) h_ dX3_lengthen_50 (fun h_ => ?_)
              refine lv_iload_n hx_ hb_ dX3_lengthen_51 rfl (lv_at hl_ 2 rfl) ?_
              refine jx_iadd hx_ hb_ dX3_lengthen_52 ?_
              refine jx_iast hx_ hb_ hM_ hP_ hD_ hS_ 4 0 rfl rfl rfl (Nat.le_of_ble_eq_true rfl) h_ dX3_lengthen_53 (fun H locs h_ hP_ hD_ hS_ => ?_)
              have hP_ : va_P D vwCl [(wRo y a se tr (uI fi_m4 v7 ((fi_m4 v7) + x2)) (uI la_m5 v7 ((la_m5 v7) + x2)) sh ac no)].flatten H := hP_
              have hD_ : va_D A [(wRo y a se tr (uI fi_m4 v7 ((fi_m4 v7) + x2)) (uI la_m5 v7 ((la_m5 v7) + x2)) sh ac no)].flatten := hD_
              refine lv_goto (tgt := 82) hx_ hb_ dX3_lengthen_54 (by decide) ?_
              refine lv_iinc (v := jI (v7 + 1)) (lv' := [(4, .int (jI (v7 + 1))), (0, .ref (a 0)), (1, .int (jI x1)), (2, .int (jI x2)), (3, .int (jI v6))]) hx_ hb_ dX3_lengthen_82 hl_ (k := 4) rfl (jI_add _ _) (by decide) rfl (fun ls hl_ => ?_)
              refine lv_goto (tgt := 5) hx_ hb_ dX3_lengthen_85 (by decide) ?_
              exact ih5 _ _ _ _ _ _ ls h_ hP_ hD_ hS_ (lv_sub hl_ [1, 2, 3, 4, 0] rfl)
    exact hL5 fu _ _ _ _ _ _ ls h_ hP_ hD_ hS_ (lv_sub hl_ [2, 3, 4, 1, 0] rfl)
  exact key_ _ (fun v9 fi9 la9 H locs pc ls h9_ hdg_ hP_ hD_ hS_ => by cases h9_; exact jend_i hx_ hb_ hr_ hlocks_ hP_ hD_ hS_ hdg_)
def rm_X3_takeCut : Room := { frames := 4, cells := 0, slots := 0, locals := 93 }
set_option maxRecDepth 100000 in
set_option maxHeartbeats 8000000 in
theorem c_X3_takeCut (l : Launch) (D : va_G) (y : Nat → ClassId) (z : Nat → Nat) (a : Nat → Nat) (b : Nat → Nat) (se : Int → Int) (tr : Int → Int) (fi : Int → Int) (la : Int → Int) (sh : Int → Int) (ac : Int → Int) (no : Int) (o_se : Int → Int) (o_tr : Int → Int) (o_fi : Int → Int) (o_la : Int → Int) (o_sh : Int → Int) (o_ac : Int → Int) (o_no : Int) (x2 : Int) (x3 : Int) (fu : Nat) (q_tr : Int → Int) (q_fi : Int → Int) (q_la : Int → Int) (q_sh : Int → Int) (q_ac : Int → Int) (q_no : Int) (h_ : f_X3_takeCut fu tr fi la sh ac no o_tr o_fi o_la o_sh o_ac o_no x2 x3 = some (q_tr, q_fi, q_la, q_sh, q_ac, q_no)) : jCV l D y z yX3_takeCut wsX3_takeCut rm_X3_takeCut [.ref (a 0), .ref (b 0), .int (jI x2), .int (jI x3)] [(wRo y a se tr fi la sh ac no), (wRo y b o_se o_tr o_fi o_la o_sh o_ac o_no)] [(wRo y a se q_tr q_fi q_la q_sh q_ac q_no), (wRo y b o_se o_tr o_fi o_la o_sh o_ac o_no)] := by
  intro sz
  refine jmet (Qc := (fun A => va_Qv (fun (_ : Unit) => True) (jB D A [(wRo y a se q_tr q_fi q_la q_sh q_ac q_no), (wRo y b o_se o_tr o_fi o_la o_sh o_ac o_no)]) A)) (cc := cX3_takeCut) (maxL := 10) (ret := none) (own := RX3) (by decide) rfl (Nat.le_of_ble_eq_true rfl) rfl (fun p e s m R args below meth c A ls hR_ hargs_ hx_ hb_ hr_ hlocks_ hml_ hown_ hts_ hname_ hsz_ hP_ hD_ hA_ hM_ hl_ => ?_)
  have key_ : ∀ Q : State → Prop, (∀ (tr9 : Int → Int) (fi9 : Int → Int) (la9 : Int → Int) (sh9 : Int → Int) (ac9 : Int → Int) (no9 : Int) (H : Heap) (locs : List Loc) (pc : Nat) (ls : Array Slot), some (tr9, fi9, la9, sh9, ac9, no9) = some (q_tr, q_fi, q_la, q_sh, q_ac, q_no) → decode cX3_takeCut pc = .ok (.return_, 1) → va_P D vwCl [(wRo y a se tr9 fi9 la9 sh9 ac9 no9), (wRo y b o_se o_tr o_fi o_la o_sh o_ac o_no)].flatten H → va_D A [(wRo y a se tr9 fi9 la9 sh9 ac9 no9), (wRo y b o_se o_tr o_fi o_la o_sh o_ac o_no)].flatten → va_S A s.heap H locs → W p l e R s m args below meth c H locs 0 0 Q (F0 m pc ls [])) → W p l e R s m args below meth c s.heap [] 0 0 Q (F0 m 0 ls []) := by
    intro Q hE_
    have hS_ : va_S A s.heap s.heap [] := va_S.rf
    have hl_ : lv_has ls 10 [(0, .ref (a 0)), (1, .ref (b 0)), (2, .int (jI x2)), (3, .int (jI x3))] := hl_
    have hin_ : ∀ w ∈ u_ws RX3 TX3 7, w ∈ wsX3_takeCut := by decide +kernel
    unfold f_X3_takeCut at h_
    refine lv_iload_n hx_ hb_ dX3_takeCut_0 rfl (lv_at hl_ 2 rfl) ?_
    refine lv_iload_n hx_ hb_ dX3_takeCut_1 rfl (lv_at hl_ 3 rfl) ?_
    refine jx_iadd hx_ hb_ dX3_takeCut_2 ?_
    refine lv_istore (lv' := [(4, .int (jI (x2 + x3))), (0, .ref (a 0)), (1, .ref (b 0)), (2, .int (jI x2)), (3, .int (jI x3))]) hx_ hb_ dX3_takeCut_3 hl_ (by decide) rfl (fun ls hl_ => ?_)
    refine lv_aload_n hx_ hb_ dX3_takeCut_5 rfl (lv_at hl_ 1 rfl) ?_
    refine lv_iconst (v := jI 0) hx_ hb_ dX3_takeCut_6 (by decide +kernel) ?_
    refine va_put (D := D) (ci := 3) (v := .int (jI 0)) (ty := .int) (C := RX3) (T := TX3) (N := 7) hx_ hb_ hts_ hin_ tyX3 tyX3_ok nmX3 hown_ hM_.1 hP_ hD_ hS_ 0 rfl rfl 6 (by decide) (hts_ (.fieldLink RX3 44 "MusicHoles$Roll" "notes" "I") (by decide +kernel)) (fun _ h9_ => h9_) rfl (by decide +kernel) rfl rfl (Nat.le_of_ble_eq_true rfl) dX3_takeCut_7 (fun H locs hP_ hD_ hS_ => ?_)
    have hP_ : va_P D vwCl [(wRo y a se tr fi la sh ac 0), (wRo y b o_se o_tr o_fi o_la o_sh o_ac o_no)].flatten H := hP_
    have hD_ : va_D A [(wRo y a se tr fi la sh ac 0), (wRo y b o_se o_tr o_fi o_la o_sh o_ac o_no)].flatten := hD_
    refine lv_iconst (v := jI 0) hx_ hb_ dX3_takeCut_10 (by decide +kernel) ?_
    refine lv_istore (lv' := [(5, .int (jI 0)), (4, .int (jI (x2 + x3))), (0, .ref (a 0)), (1, .ref (b 0)), (2, .int (jI x2)), (3, .int (jI x3))]) hx_ hb_ dX3_takeCut_11 hl_ (by decide) rfl (fun ls hl_ => ?_)
    have hX130 : ∀ (tr_m1 : Int → Int) (fi_m2 : Int → Int) (la_m3 : Int → Int) (sh_m4 : Int → Int) (ac_m5 : Int → Int) (no_m6 : Int) (H : Heap) (locs : List Loc) (ls : Array Slot), f_X3_takeCut_X130 fu tr_m1 fi_m2 la_m3 sh_m4 ac_m5 no_m6 = some (q_tr, q_fi, q_la, q_sh, q_ac, q_no) → va_P D vwCl [(wRo y a se tr_m1 fi_m2 la_m3 sh_m4 ac_m5 no_m6), (wRo y b o_se o_tr o_fi o_la o_sh o_ac o_no)].flatten H → va_D A [(wRo y a se tr_m1 fi_m2 la_m3 sh_m4 ac_m5 no_m6), (wRo y b o_se o_tr o_fi o_la o_sh o_ac o_no)].flatten → va_S A s.heap H locs → lv_has ls 10 [] → W p l e R s m args below meth c H locs 0 0 Q (F0 m 130 ls []) := by
      intro tr_m1 fi_m2 la_m3 sh_m4 ac_m5 no_m6 H locs ls h_ hP_ hD_ hS_ hl_
      unfold f_X3_takeCut_X130 at h_
      exact hE_ _ _ _ _ _ _ _ _ _ _ h_ dX3_takeCut_130 hP_ hD_ hS_
    have hL13 : ∀ n13 : Nat, ∀ (tr_m7 : Int → Int) (fi_m8 : Int → Int) (la_m9 : Int → Int) (sh_m10 : Int → Int) (ac_m11 : Int → Int) (no_m12 : Int) (v13 : Int) (v14 : Int) (H : Heap) (locs : List Loc) (ls : Array Slot), f_X3_takeCut_L13 fu o_tr o_fi o_la o_sh o_ac o_no x2 x3 (f_X3_takeCut_X130 fu) n13 tr_m7 fi_m8 la_m9 sh_m10 ac_m11 no_m12 v13 v14 = some (q_tr, q_fi, q_la, q_sh, q_ac, q_no) → va_P D vwCl [(wRo y a se tr_m7 fi_m8 la_m9 sh_m10 ac_m11 no_m12), (wRo y b o_se o_tr o_fi o_la o_sh o_ac o_no)].flatten H → va_D A [(wRo y a se tr_m7 fi_m8 la_m9 sh_m10 ac_m11 no_m12), (wRo y b o_se o_tr o_fi o_la o_sh o_ac o_no)].flatten → va_S A s.heap H locs → lv_has ls 10 [(0, .ref (a 0)), (1, .ref (b 0)), (2, .int (jI x2)), (3, .int (jI x3)), (4, .int (jI v13)), (5, .int (jI v14))] → W p l e R s m args below meth c H locs 0 0 Q (F0 m 13 ls []) := by
      intro n13
      induction n13 with
      | zero => intro _ _ _ _ _ _ _ _ H locs ls h_; have h_ : (none : Option ((Int → Int) × (Int → Int) × (Int → Int) × (Int → Int) × (Int → Int) × Int)) = some (q_tr, q_fi, q_la, q_sh, q_ac, q_no) := h_; cases h_
      | succ n13 ih13 =>
        intro tr_m7 fi_m8 la_m9 sh_m10 ac_m11 no_m12 v13 v14 H locs ls h_ hP_ hD_ hS_ hl_
        replace h_ : f_X3_takeCut_L13_b fu o_tr o_fi o_la o_sh o_ac o_no x2 x3 (f_X3_takeCut_X130 fu) (f_X3_takeCut_L13 fu o_tr o_fi o_la o_sh o_ac o_no x2 x3 (f_X3_takeCut_X130 fu) n13) tr_m7 fi_m8 la_m9 sh_m10 ac_m11 no_m12 v13 v14 = some (q_tr, q_fi, q_la, q_sh, q_ac, q_no) := h_
        unfold f_X3_takeCut_L13_b at h_
        refine lv_iload hx_ hb_ dX3_takeCut_13 (lv_at hl_ 5 rfl) ?_
        refine lv_aload_n hx_ hb_ dX3_takeCut_15 rfl (lv_at hl_ 1 rfl) ?_
        obtain ⟨v15, hv15, h_⟩ := jb_i h_
        refine jx_cvi (wr := [(wRo y a se tr_m7 fi_m8 la_m9 sh_m10 ac_m11 no_m12)]) (cw := [(wRo y b o_se o_tr o_fi o_la o_sh o_ac o_no)]) (cw1 := [(wRo y b o_se o_tr o_fi o_la o_sh o_ac o_no)]) (cs1 := [(wRo y a se tr_m7 fi_m8 la_m9 sh_m10 ac_m11 no_m12), (wRo y b o_se o_tr o_fi o_la o_sh o_ac o_no)]) (As := []) (rest := [.int (jI v14)]) ⟨hx_, hb_, hml_, hown_, hts_⟩ hM_ hP_ hD_ hS_ hA_ (jperm 2 [0, 1] rfl (by decide) rfl) (jperm 2 [0, 1] rfl (by decide) rfl) (c_X3_size l D y z b o_se o_tr o_fi o_la o_sh o_ac o_no fu v15 hv15) 0 gX3_takeCut_X3_size rfl ⟨rfl, rfl⟩ (by decide +kernel) ⟨by rw [hR_]; exact Nat.le_of_ble_eq_true rfl, by rw [hR_]; exact Nat.le_of_ble_eq_true rfl⟩ 0 3 rfl rfl rfl rfl rfl hl_.1 (Nat.le_of_ble_eq_true rfl) dX3_takeCut_16 ⟨Nat.zero_le _, Nat.zero_le _⟩ (fun H locs hP_ hD_ hS_ => ?_)
        refine jx_icmp_ge (tgt := 130) hx_ hb_ h_ dX3_takeCut_19 (by decide) (fun h_ => ?_) (fun h_ => ?_)
        · exact hX130 _ _ _ _ _ _ _ _ ls h_ hP_ hD_ hS_ (lv_sub hl_ [] rfl)
        · refine lv_aload_n hx_ hb_ dX3_takeCut_22 rfl (lv_at hl_ 1 rfl) ?_
          refine lv_iload hx_ hb_ dX3_takeCut_23 (lv_at hl_ 5 rfl) ?_
          obtain ⟨v16, hv16, h_⟩ := jb_i h_
          refine jx_cvi (wr := [(wRo y a se tr_m7 fi_m8 la_m9 sh_m10 ac_m11 no_m12)]) (cw := [(wRo y b o_se o_tr o_fi o_la o_sh o_ac o_no)]) (cw1 := [(wRo y b o_se o_tr o_fi o_la o_sh o_ac o_no)]) (cs1 := [(wRo y a se tr_m7 fi_m8 la_m9 sh_m10 ac_m11 no_m12), (wRo y b o_se o_tr o_fi o_la o_sh o_ac o_no)]) (As := [.int (jI v14)]) (rest := []) ⟨hx_, hb_, hml_, hown_, hts_⟩ hM_ hP_ hD_ hS_ hA_ (jperm 2 [0, 1] rfl (by decide) rfl) (jperm 2 [0, 1] rfl (by decide) rfl) (c_X3_firstOf l D y z b o_se o_tr o_fi o_la o_sh o_ac o_no v14 fu v16 hv16) 1 gX3_takeCut_X3_firstOf rfl ⟨rfl, rfl⟩ (by decide +kernel) ⟨by rw [hR_]; exact Nat.le_of_ble_eq_true rfl, by rw [hR_]; exact Nat.le_of_ble_eq_true rfl⟩ 0 3 rfl rfl rfl rfl rfl hl_.1 (Nat.le_of_ble_eq_true rfl) dX3_takeCut_25 ⟨Nat.zero_le _, Nat.zero_le _⟩ (fun H locs hP_ hD_ hS_ => ?_)
          refine lv_istore (lv' := [(6, .int (jI v16)), (0, .ref (a 0)), (1, .ref (b 0)), (2, .int (jI x2)), (3, .int (jI x3)), (4, .int (jI v13)), (5, .int (jI v14))]) hx_ hb_ dX3_takeCut_28 hl_ (by decide) rfl (fun ls hl_ => ?_)
          refine lv_aload_n hx_ hb_ dX3_takeCut_30 rfl (lv_at hl_ 2 rfl) ?_
          refine lv_iload hx_ hb_ dX3_takeCut_31 (lv_at hl_ 6 rfl) ?_
          obtain ⟨v17, hv17, h_⟩ := jb_i h_
          refine jx_cvi (wr := [(wRo y a se tr_m7 fi_m8 la_m9 sh_m10 ac_m11 no_m12)]) (cw := [(wRo y b o_se o_tr o_fi o_la o_sh o_ac o_no)]) (cw1 := [(wRo y b o_se o_tr o_fi o_la o_sh o_ac o_no)]) (cs1 := [(wRo y a se tr_m7 fi_m8 la_m9 sh_m10 ac_m11 no_m12), (wRo y b o_se o_tr o_fi o_la o_sh o_ac o_no)]) (As := [.int (jI v14)]) (rest := []) ⟨hx_, hb_, hml_, hown_, hts_⟩ hM_ hP_ hD_ hS_ hA_ (jperm 2 [0, 1] rfl (by decide) rfl) (jperm 2 [0, 1] rfl (by decide) rfl) (c_X3_lastOf l D y z b o_se o_tr o_fi o_la o_sh o_ac o_no v14 fu v17 hv17) 1 gX3_takeCut_X3_lastOf rfl ⟨rfl, rfl⟩ (by decide +kernel) ⟨by rw [hR_]; exact Nat.le_of_ble_eq_true rfl, by rw [hR_]; exact Nat.le_of_ble_eq_true rfl⟩ 0 3 rfl rfl rfl rfl rfl hl_.1 (Nat.le_of_ble_eq_true rfl) dX3_takeCut_33 ⟨Nat.zero_le _, Nat.zero_le _⟩ (fun H locs hP_ hD_ hS_ => ?_)
          refine lv_istore (lv' := [(7, .int (jI v17)), (6, .int (jI v16)), (0, .ref (a 0)), (1, .ref (b 0)), (2, .int (jI x2)), (3, .int (jI x3)), (4, .int (jI v13)), (5, .int (jI v14))]) hx_ hb_ dX3_takeCut_36 hl_ (by decide) rfl (fun ls hl_ => ?_)
          refine lv_iload hx_ hb_ dX3_takeCut_38 (lv_at hl_ 1 rfl) ?_
          refine lv_iload_n hx_ hb_ dX3_takeCut_40 rfl (lv_at hl_ 4 rfl) ?_
          have hJ51 : ∀  (H : Heap) (locs : List Loc) (ls : Array Slot), f_X3_takeCut_J51 fu o_tr o_sh o_ac o_no x2 x3 tr_m7 fi_m8 la_m9 sh_m10 ac_m11 no_m12 v13 v14 v16 v17 (f_X3_takeCut_L13 fu o_tr o_fi o_la o_sh o_ac o_no x2 x3 (f_X3_takeCut_X130 fu) n13) = some (q_tr, q_fi, q_la, q_sh, q_ac, q_no) → va_P D vwCl [(wRo y a se tr_m7 fi_m8 la_m9 sh_m10 ac_m11 no_m12), (wRo y b o_se o_tr o_fi o_la o_sh o_ac o_no)].flatten H → va_D A [(wRo y a se tr_m7 fi_m8 la_m9 sh_m10 ac_m11 no_m12), (wRo y b o_se o_tr o_fi o_la o_sh o_ac o_no)].flatten → va_S A s.heap H locs → lv_has ls 10 [(0, .ref (a 0)), (1, .ref (b 0)), (2, .int (jI x2)), (3, .int (jI x3)), (4, .int (jI v13)), (5, .int (jI v14)), (6, .int (jI v16)), (7, .int (jI v17))] → W p l e R s m args below meth c H locs 0 0 Q (F0 m 51 ls []) := by
            intro  H locs ls h_ hP_ hD_ hS_ hl_
            unfold f_X3_takeCut_J51 at h_
            refine lv_iload hx_ hb_ dX3_takeCut_51 (lv_at hl_ 6 rfl) ?_
            refine lv_iload_n hx_ hb_ dX3_takeCut_53 rfl (lv_at hl_ 2 rfl) ?_
            have hJ71 : ∀ (v18 : Int) (H : Heap) (locs : List Loc) (ls : Array Slot), f_X3_takeCut_J71 fu o_tr o_sh o_ac o_no x2 x3 tr_m7 fi_m8 la_m9 sh_m10 ac_m11 no_m12 v13 v14 v17 (f_X3_takeCut_L13 fu o_tr o_fi o_la o_sh o_ac o_no x2 x3 (f_X3_takeCut_X130 fu) n13) v18 = some (q_tr, q_fi, q_la, q_sh, q_ac, q_no) → va_P D vwCl [(wRo y a se tr_m7 fi_m8 la_m9 sh_m10 ac_m11 no_m12), (wRo y b o_se o_tr o_fi o_la o_sh o_ac o_no)].flatten H → va_D A [(wRo y a se tr_m7 fi_m8 la_m9 sh_m10 ac_m11 no_m12), (wRo y b o_se o_tr o_fi o_la o_sh o_ac o_no)].flatten → va_S A s.heap H locs → lv_has ls 10 [(0, .ref (a 0)), (1, .ref (b 0)), (2, .int (jI x2)), (3, .int (jI x3)), (4, .int (jI v13)), (5, .int (jI v14)), (7, .int (jI v17))] → W p l e R s m args below meth c H locs 0 0 Q (F0 m 71 ls [.int (jI v18)]) := by
              intro v18 H locs ls h_ hP_ hD_ hS_ hl_
              unfold f_X3_takeCut_J71 at h_
              refine lv_istore (lv' := [(8, .int (jI v18)), (0, .ref (a 0)), (1, .ref (b 0)), (2, .int (jI x2)), (3, .int (jI x3)), (4, .int (jI v13)), (5, .int (jI v14)), (7, .int (jI v17))]) hx_ hb_ dX3_takeCut_71 hl_ (by decide) rfl (fun ls hl_ => ?_)
              refine lv_iload hx_ hb_ dX3_takeCut_73 (lv_at hl_ 7 rfl) ?_
              refine lv_iload hx_ hb_ dX3_takeCut_75 (lv_at hl_ 5 rfl) ?_
              have hJ95 : ∀ (v19 : Int) (H : Heap) (locs : List Loc) (ls : Array Slot), f_X3_takeCut_J95 fu o_tr o_sh o_ac o_no tr_m7 fi_m8 la_m9 sh_m10 ac_m11 no_m12 v13 v14 v18 (f_X3_takeCut_L13 fu o_tr o_fi o_la o_sh o_ac o_no x2 x3 (f_X3_takeCut_X130 fu) n13) v19 = some (q_tr, q_fi, q_la, q_sh, q_ac, q_no) → va_P D vwCl [(wRo y a se tr_m7 fi_m8 la_m9 sh_m10 ac_m11 no_m12), (wRo y b o_se o_tr o_fi o_la o_sh o_ac o_no)].flatten H → va_D A [(wRo y a se tr_m7 fi_m8 la_m9 sh_m10 ac_m11 no_m12), (wRo y b o_se o_tr o_fi o_la o_sh o_ac o_no)].flatten → va_S A s.heap H locs → lv_has ls 10 [(0, .ref (a 0)), (1, .ref (b 0)), (2, .int (jI x2)), (3, .int (jI x3)), (4, .int (jI v13)), (5, .int (jI v14)), (8, .int (jI v18))] → W p l e R s m args below meth c H locs 0 0 Q (F0 m 95 ls [.int (jI v19)]) := by
                intro v19 H locs ls h_ hP_ hD_ hS_ hl_
                unfold f_X3_takeCut_J95 at h_
                refine lv_istore (lv' := [(9, .int (jI v19)), (0, .ref (a 0)), (1, .ref (b 0)), (2, .int (jI x2)), (3, .int (jI x3)), (4, .int (jI v13)), (5, .int (jI v14)), (8, .int (jI v18))]) hx_ hb_ dX3_takeCut_95 hl_ (by decide) rfl (fun ls hl_ => ?_)
                refine lv_aload_n hx_ hb_ dX3_takeCut_97 rfl (lv_at hl_ 1 rfl) ?_
                refine lv_aload_n hx_ hb_ dX3_takeCut_98 rfl (lv_at hl_ 2 rfl) ?_
                refine lv_iload hx_ hb_ dX3_takeCut_99 (lv_at hl_ 6 rfl) ?_
                obtain ⟨v20, hv20, h_⟩ := jb_i h_
                refine jx_cvi (wr := [(wRo y a se tr_m7 fi_m8 la_m9 sh_m10 ac_m11 no_m12)]) (cw := [(wRo y b o_se o_tr o_fi o_la o_sh o_ac o_no)]) (cw1 := [(wRo y b o_se o_tr o_fi o_la o_sh o_ac o_no)]) (cs1 := [(wRo y a se tr_m7 fi_m8 la_m9 sh_m10 ac_m11 no_m12), (wRo y b o_se o_tr o_fi o_la o_sh o_ac o_no)]) (As := [.int (jI v14)]) (rest := [.ref (a 0)]) ⟨hx_, hb_, hml_, hown_, hts_⟩ hM_ hP_ hD_ hS_ hA_ (jperm 2 [0, 1] rfl (by decide) rfl) (jperm 2 [0, 1] rfl (by decide) rfl) (c_X3_trackOf l D y z b o_se o_tr o_fi o_la o_sh o_ac o_no v14 fu v20 hv20) 1 gX3_takeCut_X3_trackOf rfl ⟨rfl, rfl⟩ (by decide +kernel) ⟨by rw [hR_]; exact Nat.le_of_ble_eq_true rfl, by rw [hR_]; exact Nat.le_of_ble_eq_true rfl⟩ 0 3 rfl rfl rfl rfl rfl hl_.1 (Nat.le_of_ble_eq_true rfl) dX3_takeCut_101 ⟨Nat.zero_le _, Nat.zero_le _⟩ (fun H locs hP_ hD_ hS_ => ?_)
                refine lv_iload hx_ hb_ dX3_takeCut_104 (lv_at hl_ 7 rfl) ?_
                refine lv_iload hx_ hb_ dX3_takeCut_106 (lv_at hl_ 0 rfl) ?_
                refine lv_aload_n hx_ hb_ dX3_takeCut_108 rfl (lv_at hl_ 2 rfl) ?_
                refine lv_iload hx_ hb_ dX3_takeCut_109 (lv_at hl_ 6 rfl) ?_
                obtain ⟨v21, hv21, h_⟩ := jb_i h_
                refine jx_cvi (wr := [(wRo y a se tr_m7 fi_m8 la_m9 sh_m10 ac_m11 no_m12)]) (cw := [(wRo y b o_se o_tr o_fi o_la o_sh o_ac o_no)]) (cw1 := [(wRo y b o_se o_tr o_fi o_la o_sh o_ac o_no)]) (cs1 := [(wRo y a se tr_m7 fi_m8 la_m9 sh_m10 ac_m11 no_m12), (wRo y b o_se o_tr o_fi o_la o_sh o_ac o_no)]) (As := [.int (jI v14)]) (rest := [.int (jI v19), .int (jI v18), .int (jI v20), .ref (a 0)]) ⟨hx_, hb_, hml_, hown_, hts_⟩ hM_ hP_ hD_ hS_ hA_ (jperm 2 [0, 1] rfl (by decide) rfl) (jperm 2 [0, 1] rfl (by decide) rfl) (c_X3_shiftOf l D y z b o_se o_tr o_fi o_la o_sh o_ac o_no v14 fu v21 hv21) 1 gX3_takeCut_X3_shiftOf rfl ⟨rfl, rfl⟩ (by decide +kernel) ⟨by rw [hR_]; exact Nat.le_of_ble_eq_true rfl, by rw [hR_]; exact Nat.le_of_ble_eq_true rfl⟩ 0 3 rfl rfl rfl rfl rfl hl_.1 (Nat.le_of_ble_eq_true rfl) dX3_takeCut_111 ⟨Nat.zero_le _, Nat.zero_le _⟩ (fun H locs hP_ hD_ hS_ => ?_)
                refine lv_aload_n hx_ hb_ dX3_takeCut_114 rfl (lv_at hl_ 2 rfl) ?_
                refine lv_iload hx_ hb_ dX3_takeCut_115 (lv_at hl_ 6 rfl) ?_
                obtain ⟨v22, hv22, h_⟩ := jb_i h_
                refine jx_cvi (wr := [(wRo y a se tr_m7 fi_m8 la_m9 sh_m10 ac_m11 no_m12)]) (cw := [(wRo y b o_se o_tr o_fi o_la o_sh o_ac o_no)]) (cw1 := [(wRo y b o_se o_tr o_fi o_la o_sh o_ac o_no)]) (cs1 := [(wRo y a se tr_m7 fi_m8 la_m9 sh_m10 ac_m11 no_m12), (wRo y b o_se o_tr o_fi o_la o_sh o_ac o_no)]) (As := [.int (jI v14)]) (rest := [.int (jI v21), .int (jI v19), .int (jI v18), .int (jI v20), .ref (a 0)]) ⟨hx_, hb_, hml_, hown_, hts_⟩ hM_ hP_ hD_ hS_ hA_ (jperm 2 [0, 1] rfl (by decide) rfl) (jperm 2 [0, 1] rfl (by decide) rfl) (c_X3_hasAccent l D y z b o_se o_tr o_fi o_la o_sh o_ac o_no v14 fu v22 hv22) 1 gX3_takeCut_X3_hasAccent rfl ⟨rfl, rfl⟩ (by decide +kernel) ⟨by rw [hR_]; exact Nat.le_of_ble_eq_true rfl, by rw [hR_]; exact Nat.le_of_ble_eq_true rfl⟩ 0 3 rfl rfl rfl rfl rfl hl_.1 (Nat.le_of_ble_eq_true rfl) dX3_takeCut_117 ⟨Nat.zero_le _, Nat.zero_le _⟩ (fun H locs hP_ hD_ hS_ => ?_)
                obtain ⟨v23, tr_m24, fi_m25, la_m26, sh_m27, ac_m28, no_m29, hv23, h_⟩ := jb7_i h_
                refine jx_cvi (wr := [(wRo y b o_se o_tr o_fi o_la o_sh o_ac o_no)]) (cw := [(wRo y a se tr_m7 fi_m8 la_m9 sh_m10 ac_m11 no_m12)]) (cw1 := [(wRo y a se tr_m24 fi_m25 la_m26 sh_m27 ac_m28 no_m29)]) (cs1 := [(wRo y a se tr_m24 fi_m25 la_m26 sh_m27 ac_m28 no_m29), (wRo y b o_se o_tr o_fi o_la o_sh o_ac o_no)]) (As := [.int (jI v20), .int (jI v18), .int (jI v19), .int (jI v21), .int (jI v22)]) (rest := []) ⟨hx_, hb_, hml_, hown_, hts_⟩ hM_ hP_ hD_ hS_ hA_ (jperm 2 [1, 0] rfl (by decide) rfl) (jperm 2 [1, 0] rfl (by decide) rfl) (c_X3_add l D y z a se tr_m7 fi_m8 la_m9 sh_m10 ac_m11 no_m12 v20 v18 v19 v21 v22 fu v23 tr_m24 fi_m25 la_m26 sh_m27 ac_m28 no_m29 hv23) 5 gX3_takeCut_X3_add rfl ⟨rfl, rfl⟩ (by decide +kernel) ⟨by rw [hR_]; exact Nat.le_of_ble_eq_true rfl, by rw [hR_]; exact Nat.le_of_ble_eq_true rfl⟩ 0 3 rfl rfl rfl rfl rfl hl_.1 (Nat.le_of_ble_eq_true rfl) dX3_takeCut_120 ⟨Nat.zero_le _, Nat.zero_le _⟩ (fun H locs hP_ hD_ hS_ => ?_)
                refine lv_pop hx_ hb_ dX3_takeCut_123 rfl ?_
                refine lv_iinc (v := jI (v14 + 1)) (lv' := [(5, .int (jI (v14 + 1))), (9, .int (jI v19)), (0, .ref (a 0)), (1, .ref (b 0)), (2, .int (jI x2)), (3, .int (jI x3)), (4, .int (jI v13)), (8, .int (jI v18))]) hx_ hb_ dX3_takeCut_124 hl_ (k := 6) rfl (jI_add _ _) (by decide) rfl (fun ls hl_ => ?_)
                refine lv_goto (tgt := 13) hx_ hb_ dX3_takeCut_127 (by decide) ?_
                exact ih13 _ _ _ _ _ _ _ _ _ _ ls h_ hP_ hD_ hS_ (lv_sub hl_ [2, 3, 4, 5, 6, 0] rfl)
              refine jx_icmp_ge (tgt := 91) hx_ hb_ h_ dX3_takeCut_77 (by decide) (fun h_ => ?_) (fun h_ => ?_)
              · refine lv_iload hx_ hb_ dX3_takeCut_91 (lv_at hl_ 7 rfl) ?_
                refine lv_iload_n hx_ hb_ dX3_takeCut_93 rfl (lv_at hl_ 4 rfl) ?_
                refine jx_isub hx_ hb_ dX3_takeCut_94 ?_
                exact hJ95 _ _ _ ls h_ hP_ hD_ hS_ (lv_sub hl_ [1, 2, 3, 4, 5, 6, 0] rfl)
              · refine lv_iload hx_ hb_ dX3_takeCut_80 (lv_at hl_ 7 rfl) ?_
                refine lv_iload_n hx_ hb_ dX3_takeCut_82 rfl (lv_at hl_ 3 rfl) ?_
                refine lv_iconst (v := jI 1) hx_ hb_ dX3_takeCut_83 (by decide +kernel) ?_
                refine jx_isub hx_ hb_ dX3_takeCut_84 ?_
                refine jx_mmin hx_ hb_ (hml_.trans hl_.1.symm) hown_ (hts_ (.methodLink RX3 87 Lib.Math.min.name) (by decide +kernel)) (hts_ (.static Lib.Math.min.name) (by decide +kernel)) (hts_ (.initialized "java/lang/Math") (by decide +kernel)) (hts_ (.code Lib.Math.min.name Lib.Math.min.code 2 (some .int)) (by decide +kernel)) (by rw [hR_]; exact Nat.le_of_ble_eq_true rfl) (by rw [hR_]; exact Nat.le_of_ble_eq_true rfl) (Nat.zero_le _) (Nat.zero_le _) h_ dX3_takeCut_85 (fun h_ => ?_)
                refine lv_goto (tgt := 95) hx_ hb_ dX3_takeCut_88 (by decide) ?_
                exact hJ95 _ _ _ ls h_ hP_ hD_ hS_ (lv_sub hl_ [1, 2, 3, 4, 5, 6, 0] rfl)
            refine jx_icmp_ge (tgt := 62) hx_ hb_ h_ dX3_takeCut_54 (by decide) (fun h_ => ?_) (fun h_ => ?_)
            · refine lv_iload hx_ hb_ dX3_takeCut_62 (lv_at hl_ 6 rfl) ?_
              refine lv_iload hx_ hb_ dX3_takeCut_64 (lv_at hl_ 4 rfl) ?_
              refine jx_mmax hx_ hb_ (hml_.trans hl_.1.symm) hown_ (hts_ (.methodLink RX3 78 Lib.Math.max.name) (by decide +kernel)) (hts_ (.static Lib.Math.max.name) (by decide +kernel)) (hts_ (.initialized "java/lang/Math") (by decide +kernel)) (hts_ (.code Lib.Math.max.name Lib.Math.max.code 2 (some .int)) (by decide +kernel)) (by rw [hR_]; exact Nat.le_of_ble_eq_true rfl) (by rw [hR_]; exact Nat.le_of_ble_eq_true rfl) (Nat.zero_le _) (Nat.zero_le _) h_ dX3_takeCut_66 (fun h_ => ?_)
              refine lv_iload_n hx_ hb_ dX3_takeCut_69 rfl (lv_at hl_ 3 rfl) ?_
              refine jx_isub hx_ hb_ dX3_takeCut_70 ?_
              exact hJ71 _ _ _ ls h_ hP_ hD_ hS_ (lv_sub hl_ [0, 1, 2, 3, 4, 5, 7] rfl)
            · refine lv_iload hx_ hb_ dX3_takeCut_57 (lv_at hl_ 6 rfl) ?_
              refine lv_goto (tgt := 71) hx_ hb_ dX3_takeCut_59 (by decide) ?_
              exact hJ71 _ _ _ ls h_ hP_ hD_ hS_ (lv_sub hl_ [0, 1, 2, 3, 4, 5, 7] rfl)
          refine jx_icmp_lt (tgt := 51) hx_ hb_ h_ dX3_takeCut_41 (by decide) (fun h_ => ?_) (fun h_ => ?_)
          · exact hJ51  _ _ ls h_ hP_ hD_ hS_ (lv_sub hl_ [2, 3, 4, 5, 6, 7, 1, 0] rfl)
          · refine lv_iload hx_ hb_ dX3_takeCut_44 (lv_at hl_ 0 rfl) ?_
            refine lv_iload hx_ hb_ dX3_takeCut_46 (lv_at hl_ 6 rfl) ?_
            refine jx_icmp_lt (tgt := 124) hx_ hb_ h_ dX3_takeCut_48 (by decide) (fun h_ => ?_) (fun h_ => ?_)
            · refine lv_iinc (v := jI (v14 + 1)) (lv' := [(5, .int (jI (v14 + 1))), (7, .int (jI v17)), (6, .int (jI v16)), (0, .ref (a 0)), (1, .ref (b 0)), (2, .int (jI x2)), (3, .int (jI x3)), (4, .int (jI v13))]) hx_ hb_ dX3_takeCut_124 hl_ (k := 7) rfl (jI_add _ _) (by decide) rfl (fun ls hl_ => ?_)
              refine lv_goto (tgt := 13) hx_ hb_ dX3_takeCut_127 (by decide) ?_
              exact ih13 _ _ _ _ _ _ _ _ _ _ ls h_ hP_ hD_ hS_ (lv_sub hl_ [3, 4, 5, 6, 7, 0] rfl)
            · exact hJ51  _ _ ls h_ hP_ hD_ hS_ (lv_sub hl_ [2, 3, 4, 5, 6, 7, 1, 0] rfl)
    exact hL13 fu _ _ _ _ _ _ _ _ _ _ ls h_ hP_ hD_ hS_ (lv_sub hl_ [2, 3, 4, 5, 1, 0] rfl)
  exact key_ _ (fun tr9 fi9 la9 sh9 ac9 no9 H locs pc ls h9_ hdg_ hP_ hD_ hS_ => by cases h9_; exact jend_v hx_ hb_ hr_ hlocks_ hP_ hD_ hS_ hdg_)
def rm_X3_liesWithin : Room := { frames := 2, cells := 0, slots := 0, locals := 42 }
set_option maxRecDepth 100000 in
set_option maxHeartbeats 8000000 in
theorem c_X3_liesWithin (l : Launch) (D : va_G) (y : Nat → ClassId) (z : Nat → Nat) (a : Nat → Nat) (se : Int → Int) (tr : Int → Int) (fi : Int → Int) (la : Int → Int) (sh : Int → Int) (ac : Int → Int) (no : Int) (x1 : Int) (x2 : Int) (x3 : Int) (fu : Nat) (rr : Int) (h_ : f_X3_liesWithin fu fi la no x1 x2 x3 = some rr) : jCI l D y z yX3_liesWithin wsX3_liesWithin rm_X3_liesWithin [.ref (a 0), .int (jI x1), .int (jI x2), .int (jI x3)] [(wRo y a se tr fi la sh ac no)] [(wRo y a se tr fi la sh ac no)] rr := by
  intro sz
  refine jmet (Qc := (fun A => va_Qi (fun v (_ : Unit) => v = jI rr) (jB D A [(wRo y a se tr fi la sh ac no)]) A)) (cc := cX3_liesWithin) (maxL := 4) (ret := (some .boolean)) (own := RX3) (by decide) rfl (Nat.le_of_ble_eq_true rfl) rfl (fun p e s m R args below meth c A ls hR_ hargs_ hx_ hb_ hr_ hlocks_ hml_ hown_ hts_ hname_ hsz_ hP_ hD_ hA_ hM_ hl_ => ?_)
  have key_ : ∀ Q : State → Prop, (∀ (v9 : Int) (H : Heap) (locs : List Loc) (pc : Nat) (ls : Array Slot), some v9 = some rr → (v9 = 0 ∨ v9 = 1) → decode cX3_liesWithin pc = .ok (.ireturn, 1) → va_P D vwCl [(wRo y a se tr fi la sh ac no)].flatten H → va_D A [(wRo y a se tr fi la sh ac no)].flatten → va_S A s.heap H locs → W p l e R s m args below meth c H locs 0 0 Q (F0 m pc ls [.int (jI v9)])) → W p l e R s m args below meth c s.heap [] 0 0 Q (F0 m 0 ls []) := by
    intro Q hE_
    have hS_ : va_S A s.heap s.heap [] := va_S.rf
    have hl_ : lv_has ls 4 [(0, .ref (a 0)), (1, .int (jI x1)), (2, .int (jI x2)), (3, .int (jI x3))] := hl_
    have hin_ : ∀ w ∈ u_ws RX3 TX3 7, w ∈ wsX3_liesWithin := by decide +kernel
    unfold f_X3_liesWithin at h_
    refine lv_aload_n hx_ hb_ dX3_liesWithin_0 rfl (lv_at hl_ 0 rfl) ?_
    refine lv_iload_n hx_ hb_ dX3_liesWithin_1 rfl (lv_at hl_ 1 rfl) ?_
    obtain ⟨v1, hv1, h_⟩ := jb_i h_
    refine jx_cvi (wr := []) (cw := [(wRo y a se tr fi la sh ac no)]) (cw1 := [(wRo y a se tr fi la sh ac no)]) (cs1 := [(wRo y a se tr fi la sh ac no)]) (As := [.int (jI x1)]) (rest := []) ⟨hx_, hb_, hml_, hown_, hts_⟩ hM_ hP_ hD_ hS_ hA_ (List.Perm.refl _) (List.Perm.refl _) (c_X3_has l D y z a se tr fi la sh ac no x1 fu v1 hv1) 1 gX3_liesWithin_X3_has rfl ⟨rfl, rfl⟩ (by decide +kernel) ⟨by rw [hR_]; exact Nat.le_of_ble_eq_true rfl, by rw [hR_]; exact Nat.le_of_ble_eq_true rfl⟩ 0 3 rfl rfl rfl rfl rfl hl_.1 (Nat.le_of_ble_eq_true rfl) dX3_liesWithin_2 ⟨Nat.zero_le _, Nat.zero_le _⟩ (fun H locs hP_ hD_ hS_ => ?_)
    refine jx_if_eq (tgt := 30) hx_ hb_ h_ dX3_liesWithin_5 (by decide) (fun h_ => ?_) (fun h_ => ?_)
    · refine lv_iconst (v := jI 0) hx_ hb_ dX3_liesWithin_30 (by decide +kernel) ?_
      obtain ⟨hz_, h_⟩ := jbo_i h_
      exact hE_ _ _ _ _ _ h_ hz_ dX3_liesWithin_31 hP_ hD_ hS_
    · refine lv_aload_n hx_ hb_ dX3_liesWithin_8 rfl (lv_at hl_ 0 rfl) ?_
      refine lv_iload_n hx_ hb_ dX3_liesWithin_9 rfl (lv_at hl_ 1 rfl) ?_
      obtain ⟨v2, hv2, h_⟩ := jb_i h_
      refine jx_cvi (wr := []) (cw := [(wRo y a se tr fi la sh ac no)]) (cw1 := [(wRo y a se tr fi la sh ac no)]) (cs1 := [(wRo y a se tr fi la sh ac no)]) (As := [.int (jI x1)]) (rest := []) ⟨hx_, hb_, hml_, hown_, hts_⟩ hM_ hP_ hD_ hS_ hA_ (List.Perm.refl _) (List.Perm.refl _) (c_X3_firstOf l D y z a se tr fi la sh ac no x1 fu v2 hv2) 1 gX3_liesWithin_X3_firstOf rfl ⟨rfl, rfl⟩ (by decide +kernel) ⟨by rw [hR_]; exact Nat.le_of_ble_eq_true rfl, by rw [hR_]; exact Nat.le_of_ble_eq_true rfl⟩ 0 3 rfl rfl rfl rfl rfl hl_.1 (Nat.le_of_ble_eq_true rfl) dX3_liesWithin_10 ⟨Nat.zero_le _, Nat.zero_le _⟩ (fun H locs hP_ hD_ hS_ => ?_)
      refine lv_iload_n hx_ hb_ dX3_liesWithin_13 rfl (lv_at hl_ 2 rfl) ?_
      refine jx_icmp_lt (tgt := 30) hx_ hb_ h_ dX3_liesWithin_14 (by decide) (fun h_ => ?_) (fun h_ => ?_)
      · refine lv_iconst (v := jI 0) hx_ hb_ dX3_liesWithin_30 (by decide +kernel) ?_
        obtain ⟨hz_, h_⟩ := jbo_i h_
        exact hE_ _ _ _ _ _ h_ hz_ dX3_liesWithin_31 hP_ hD_ hS_
      · refine lv_aload_n hx_ hb_ dX3_liesWithin_17 rfl (lv_at hl_ 0 rfl) ?_
        refine lv_iload_n hx_ hb_ dX3_liesWithin_18 rfl (lv_at hl_ 1 rfl) ?_
        obtain ⟨v3, hv3, h_⟩ := jb_i h_
        refine jx_cvi (wr := []) (cw := [(wRo y a se tr fi la sh ac no)]) (cw1 := [(wRo y a se tr fi la sh ac no)]) (cs1 := [(wRo y a se tr fi la sh ac no)]) (As := [.int (jI x1)]) (rest := []) ⟨hx_, hb_, hml_, hown_, hts_⟩ hM_ hP_ hD_ hS_ hA_ (List.Perm.refl _) (List.Perm.refl _) (c_X3_lastOf l D y z a se tr fi la sh ac no x1 fu v3 hv3) 1 gX3_liesWithin_X3_lastOf rfl ⟨rfl, rfl⟩ (by decide +kernel) ⟨by rw [hR_]; exact Nat.le_of_ble_eq_true rfl, by rw [hR_]; exact Nat.le_of_ble_eq_true rfl⟩ 0 3 rfl rfl rfl rfl rfl hl_.1 (Nat.le_of_ble_eq_true rfl) dX3_liesWithin_19 ⟨Nat.zero_le _, Nat.zero_le _⟩ (fun H locs hP_ hD_ hS_ => ?_)
        refine lv_iload_n hx_ hb_ dX3_liesWithin_22 rfl (lv_at hl_ 3 rfl) ?_
        refine jx_icmp_gt (tgt := 30) hx_ hb_ h_ dX3_liesWithin_23 (by decide) (fun h_ => ?_) (fun h_ => ?_)
        · refine lv_iconst (v := jI 0) hx_ hb_ dX3_liesWithin_30 (by decide +kernel) ?_
          obtain ⟨hz_, h_⟩ := jbo_i h_
          exact hE_ _ _ _ _ _ h_ hz_ dX3_liesWithin_31 hP_ hD_ hS_
        · refine lv_iconst (v := jI 1) hx_ hb_ dX3_liesWithin_26 (by decide +kernel) ?_
          refine lv_goto (tgt := 31) hx_ hb_ dX3_liesWithin_27 (by decide) ?_
          obtain ⟨hz_, h_⟩ := jbo_i h_
          exact hE_ _ _ _ _ _ h_ hz_ dX3_liesWithin_31 hP_ hD_ hS_
  exact key_ _ (fun v9 H locs pc ls h9_ hz_ hdg_ hP_ hD_ hS_ => by cases h9_; exact jend_z hx_ hb_ hr_ hlocks_ hz_ hP_ hD_ hS_ hdg_)
def rm_X3_within : Room := { frames := 3, cells := 0, slots := 0, locals := 65 }
set_option maxRecDepth 100000 in
set_option maxHeartbeats 8000000 in
theorem c_X3_within (l : Launch) (D : va_G) (y : Nat → ClassId) (z : Nat → Nat) (a : Nat → Nat) (se : Int → Int) (tr : Int → Int) (fi : Int → Int) (la : Int → Int) (sh : Int → Int) (ac : Int → Int) (no : Int) (x1 : Int) (x2 : Int) (fu : Nat) (rr : Int) (h_ : f_X3_within fu fi la no x1 x2 = some rr) : jCI l D y z yX3_within wsX3_within rm_X3_within [.ref (a 0), .int (jI x1), .int (jI x2)] [(wRo y a se tr fi la sh ac no)] [(wRo y a se tr fi la sh ac no)] rr := by
  intro sz
  refine jmet (Qc := (fun A => va_Qi (fun v (_ : Unit) => v = jI rr) (jB D A [(wRo y a se tr fi la sh ac no)]) A)) (cc := cX3_within) (maxL := 5) (ret := (some .int)) (own := RX3) (by decide) rfl (Nat.le_of_ble_eq_true rfl) rfl (fun p e s m R args below meth c A ls hR_ hargs_ hx_ hb_ hr_ hlocks_ hml_ hown_ hts_ hname_ hsz_ hP_ hD_ hA_ hM_ hl_ => ?_)
  have key_ : ∀ Q : State → Prop, (∀ (v9 : Int) (H : Heap) (locs : List Loc) (pc : Nat) (ls : Array Slot), some v9 = some rr → decode cX3_within pc = .ok (.ireturn, 1) → va_P D vwCl [(wRo y a se tr fi la sh ac no)].flatten H → va_D A [(wRo y a se tr fi la sh ac no)].flatten → va_S A s.heap H locs → W p l e R s m args below meth c H locs 0 0 Q (F0 m pc ls [.int (jI v9)])) → W p l e R s m args below meth c s.heap [] 0 0 Q (F0 m 0 ls []) := by
    intro Q hE_
    have hS_ : va_S A s.heap s.heap [] := va_S.rf
    have hl_ : lv_has ls 5 [(0, .ref (a 0)), (1, .int (jI x1)), (2, .int (jI x2))] := hl_
    have hin_ : ∀ w ∈ u_ws RX3 TX3 7, w ∈ wsX3_within := by decide +kernel
    unfold f_X3_within at h_
    refine lv_iconst (v := jI 0) hx_ hb_ dX3_within_0 (by decide +kernel) ?_
    refine lv_istore_n (lv' := [(3, .int (jI 0)), (0, .ref (a 0)), (1, .int (jI x1)), (2, .int (jI x2))]) hx_ hb_ dX3_within_1 rfl hl_ (by decide) rfl (fun ls hl_ => ?_)
    refine lv_iconst (v := jI 0) hx_ hb_ dX3_within_2 (by decide +kernel) ?_
    refine lv_istore (lv' := [(4, .int (jI 0)), (3, .int (jI 0)), (0, .ref (a 0)), (1, .int (jI x1)), (2, .int (jI x2))]) hx_ hb_ dX3_within_3 hl_ (by decide) rfl (fun ls hl_ => ?_)
    have hX34 : ∀ (v1 : Int) (H : Heap) (locs : List Loc) (ls : Array Slot), f_X3_within_X34 fu v1 = some rr → va_P D vwCl [(wRo y a se tr fi la sh ac no)].flatten H → va_D A [(wRo y a se tr fi la sh ac no)].flatten → va_S A s.heap H locs → lv_has ls 5 [(3, .int (jI v1))] → W p l e R s m args below meth c H locs 0 0 Q (F0 m 34 ls []) := by
      intro v1 H locs ls h_ hP_ hD_ hS_ hl_
      unfold f_X3_within_X34 at h_
      refine lv_iload_n hx_ hb_ dX3_within_34 rfl (lv_at hl_ 0 rfl) ?_
      exact hE_ _ _ _ _ _ h_ dX3_within_35 hP_ hD_ hS_
    have hL5 : ∀ n5 : Nat, ∀ (v2 : Int) (v3 : Int) (H : Heap) (locs : List Loc) (ls : Array Slot), f_X3_within_L5 fu fi la no x1 x2 (f_X3_within_X34 fu) n5 v2 v3 = some rr → va_P D vwCl [(wRo y a se tr fi la sh ac no)].flatten H → va_D A [(wRo y a se tr fi la sh ac no)].flatten → va_S A s.heap H locs → lv_has ls 5 [(0, .ref (a 0)), (1, .int (jI x1)), (2, .int (jI x2)), (3, .int (jI v2)), (4, .int (jI v3))] → W p l e R s m args below meth c H locs 0 0 Q (F0 m 5 ls []) := by
      intro n5
      induction n5 with
      | zero => intro _ _ H locs ls h_; have h_ : (none : Option (Int)) = some rr := h_; cases h_
      | succ n5 ih5 =>
        intro v2 v3 H locs ls h_ hP_ hD_ hS_ hl_
        replace h_ : f_X3_within_L5_b fu fi la no x1 x2 (f_X3_within_X34 fu) (f_X3_within_L5 fu fi la no x1 x2 (f_X3_within_X34 fu) n5) v2 v3 = some rr := h_
        unfold f_X3_within_L5_b at h_
        refine lv_iload hx_ hb_ dX3_within_5 (lv_at hl_ 4 rfl) ?_
        refine lv_aload_n hx_ hb_ dX3_within_7 rfl (lv_at hl_ 0 rfl) ?_
        refine va_get (D := D) (ci := 3) (v := .int (jI no)) (C := RX3) (T := TX3) (N := 7) hx_ hb_ hts_ hin_ hown_ hM_.1 hP_ 0 rfl rfl 6 (by decide) (hts_ (.fieldLink RX3 44 "MusicHoles$Roll" "notes" "I") (by decide +kernel)) (fun _ h9_ => h9_) rfl dX3_within_8 ?_
        refine jx_icmp_ge (tgt := 34) hx_ hb_ h_ dX3_within_11 (by decide) (fun h_ => ?_) (fun h_ => ?_)
        · exact hX34 _ _ _ ls h_ hP_ hD_ hS_ (lv_sub hl_ [3] rfl)
        · refine lv_aload_n hx_ hb_ dX3_within_14 rfl (lv_at hl_ 0 rfl) ?_
          refine lv_iload hx_ hb_ dX3_within_15 (lv_at hl_ 4 rfl) ?_
          refine lv_iload_n hx_ hb_ dX3_within_17 rfl (lv_at hl_ 1 rfl) ?_
          refine lv_iload_n hx_ hb_ dX3_within_18 rfl (lv_at hl_ 2 rfl) ?_
          obtain ⟨v4, hv4, h_⟩ := jb_i h_
          refine jx_cvi (wr := []) (cw := [(wRo y a se tr fi la sh ac no)]) (cw1 := [(wRo y a se tr fi la sh ac no)]) (cs1 := [(wRo y a se tr fi la sh ac no)]) (As := [.int (jI v3), .int (jI x1), .int (jI x2)]) (rest := []) ⟨hx_, hb_, hml_, hown_, hts_⟩ hM_ hP_ hD_ hS_ hA_ (List.Perm.refl _) (List.Perm.refl _) (c_X3_liesWithin l D y z a se tr fi la sh ac no v3 x1 x2 fu v4 hv4) 3 gX3_within_X3_liesWithin rfl ⟨rfl, rfl⟩ (by decide +kernel) ⟨by rw [hR_]; exact Nat.le_of_ble_eq_true rfl, by rw [hR_]; exact Nat.le_of_ble_eq_true rfl⟩ 0 3 rfl rfl rfl rfl rfl hl_.1 (Nat.le_of_ble_eq_true rfl) dX3_within_19 ⟨Nat.zero_le _, Nat.zero_le _⟩ (fun H locs hP_ hD_ hS_ => ?_)
          refine jx_if_eq (tgt := 28) hx_ hb_ h_ dX3_within_22 (by decide) (fun h_ => ?_) (fun h_ => ?_)
          · refine lv_iinc (v := jI (v3 + 1)) (lv' := [(4, .int (jI (v3 + 1))), (0, .ref (a 0)), (1, .int (jI x1)), (2, .int (jI x2)), (3, .int (jI v2))]) hx_ hb_ dX3_within_28 hl_ (k := 4) rfl (jI_add _ _) (by decide) rfl (fun ls hl_ => ?_)
            refine lv_goto (tgt := 5) hx_ hb_ dX3_within_31 (by decide) ?_
            exact ih5 _ _ _ _ ls h_ hP_ hD_ hS_ (lv_sub hl_ [1, 2, 3, 4, 0] rfl)
          · refine lv_iinc (v := jI (v2 + 1)) (lv' := [(3, .int (jI (v2 + 1))), (0, .ref (a 0)), (1, .int (jI x1)), (2, .int (jI x2)), (4, .int (jI v3))]) hx_ hb_ dX3_within_25 hl_ (k := 3) rfl (jI_add _ _) (by decide) rfl (fun ls hl_ => ?_)
            refine lv_iinc (v := jI (v3 + 1)) (lv' := [(4, .int (jI (v3 + 1))), (3, .int (jI (v2 + 1))), (0, .ref (a 0)), (1, .int (jI x1)), (2, .int (jI x2))]) hx_ hb_ dX3_within_28 hl_ (k := 4) rfl (jI_add _ _) (by decide) rfl (fun ls hl_ => ?_)
            refine lv_goto (tgt := 5) hx_ hb_ dX3_within_31 (by decide) ?_
            exact ih5 _ _ _ _ ls h_ hP_ hD_ hS_ (lv_sub hl_ [2, 3, 4, 1, 0] rfl)
    exact hL5 fu _ _ _ _ ls h_ hP_ hD_ hS_ (lv_sub hl_ [2, 3, 4, 1, 0] rfl)
  exact key_ _ (fun v9 H locs pc ls h9_ hdg_ hP_ hD_ hS_ => by cases h9_; exact jend_i hx_ hb_ hr_ hlocks_ hP_ hD_ hS_ hdg_)
def rm_X3_addPassage : Room := { frames := 4, cells := 0, slots := 0, locals := 93 }
set_option maxRecDepth 100000 in
set_option maxHeartbeats 8000000 in
theorem c_X3_addPassage (l : Launch) (D : va_G) (y : Nat → ClassId) (z : Nat → Nat) (a : Nat → Nat) (b : Nat → Nat) (se : Int → Int) (tr : Int → Int) (fi : Int → Int) (la : Int → Int) (sh : Int → Int) (ac : Int → Int) (no : Int) (o_se : Int → Int) (o_tr : Int → Int) (o_fi : Int → Int) (o_la : Int → Int) (o_sh : Int → Int) (o_ac : Int → Int) (o_no : Int) (x2 : Int) (x3 : Int) (x4 : Int) (fu : Nat) (q_tr : Int → Int) (q_fi : Int → Int) (q_la : Int → Int) (q_sh : Int → Int) (q_ac : Int → Int) (q_no : Int) (h_ : f_X3_addPassage fu tr fi la sh ac no o_tr o_fi o_la o_sh o_ac o_no x2 x3 x4 = some (q_tr, q_fi, q_la, q_sh, q_ac, q_no)) : jCV l D y z yX3_addPassage wsX3_addPassage rm_X3_addPassage [.ref (a 0), .ref (b 0), .int (jI x2), .int (jI x3), .int (jI x4)] [(wRo y a se tr fi la sh ac no), (wRo y b o_se o_tr o_fi o_la o_sh o_ac o_no)] [(wRo y a se q_tr q_fi q_la q_sh q_ac q_no), (wRo y b o_se o_tr o_fi o_la o_sh o_ac o_no)] := by
  intro sz
  refine jmet (Qc := (fun A => va_Qv (fun (_ : Unit) => True) (jB D A [(wRo y a se q_tr q_fi q_la q_sh q_ac q_no), (wRo y b o_se o_tr o_fi o_la o_sh o_ac o_no)]) A)) (cc := cX3_addPassage) (maxL := 8) (ret := none) (own := RX3) (by decide) rfl (Nat.le_of_ble_eq_true rfl) rfl (fun p e s m R args below meth c A ls hR_ hargs_ hx_ hb_ hr_ hlocks_ hml_ hown_ hts_ hname_ hsz_ hP_ hD_ hA_ hM_ hl_ => ?_)
  have key_ : ∀ Q : State → Prop, (∀ (tr9 : Int → Int) (fi9 : Int → Int) (la9 : Int → Int) (sh9 : Int → Int) (ac9 : Int → Int) (no9 : Int) (H : Heap) (locs : List Loc) (pc : Nat) (ls : Array Slot), some (tr9, fi9, la9, sh9, ac9, no9) = some (q_tr, q_fi, q_la, q_sh, q_ac, q_no) → decode cX3_addPassage pc = .ok (.return_, 1) → va_P D vwCl [(wRo y a se tr9 fi9 la9 sh9 ac9 no9), (wRo y b o_se o_tr o_fi o_la o_sh o_ac o_no)].flatten H → va_D A [(wRo y a se tr9 fi9 la9 sh9 ac9 no9), (wRo y b o_se o_tr o_fi o_la o_sh o_ac o_no)].flatten → va_S A s.heap H locs → W p l e R s m args below meth c H locs 0 0 Q (F0 m pc ls [])) → W p l e R s m args below meth c s.heap [] 0 0 Q (F0 m 0 ls []) := by
    intro Q hE_
    have hS_ : va_S A s.heap s.heap [] := va_S.rf
    have hl_ : lv_has ls 8 [(0, .ref (a 0)), (1, .ref (b 0)), (2, .int (jI x2)), (3, .int (jI x3)), (4, .int (jI x4))] := hl_
    have hin_ : ∀ w ∈ u_ws RX3 TX3 7, w ∈ wsX3_addPassage := by decide +kernel
    unfold f_X3_addPassage at h_
    refine lv_iconst (v := jI 0) hx_ hb_ dX3_addPassage_0 (by decide +kernel) ?_
    refine lv_istore (lv' := [(5, .int (jI 0)), (0, .ref (a 0)), (1, .ref (b 0)), (2, .int (jI x2)), (3, .int (jI x3)), (4, .int (jI x4))]) hx_ hb_ dX3_addPassage_1 hl_ (by decide) rfl (fun ls hl_ => ?_)
    have hX82 : ∀ (tr_m1 : Int → Int) (fi_m2 : Int → Int) (la_m3 : Int → Int) (sh_m4 : Int → Int) (ac_m5 : Int → Int) (no_m6 : Int) (H : Heap) (locs : List Loc) (ls : Array Slot), f_X3_addPassage_X82 fu tr_m1 fi_m2 la_m3 sh_m4 ac_m5 no_m6 = some (q_tr, q_fi, q_la, q_sh, q_ac, q_no) → va_P D vwCl [(wRo y a se tr_m1 fi_m2 la_m3 sh_m4 ac_m5 no_m6), (wRo y b o_se o_tr o_fi o_la o_sh o_ac o_no)].flatten H → va_D A [(wRo y a se tr_m1 fi_m2 la_m3 sh_m4 ac_m5 no_m6), (wRo y b o_se o_tr o_fi o_la o_sh o_ac o_no)].flatten → va_S A s.heap H locs → lv_has ls 8 [] → W p l e R s m args below meth c H locs 0 0 Q (F0 m 82 ls []) := by
      intro tr_m1 fi_m2 la_m3 sh_m4 ac_m5 no_m6 H locs ls h_ hP_ hD_ hS_ hl_
      unfold f_X3_addPassage_X82 at h_
      exact hE_ _ _ _ _ _ _ _ _ _ _ h_ dX3_addPassage_82 hP_ hD_ hS_
    have hL3 : ∀ n3 : Nat, ∀ (tr_m7 : Int → Int) (fi_m8 : Int → Int) (la_m9 : Int → Int) (sh_m10 : Int → Int) (ac_m11 : Int → Int) (no_m12 : Int) (v13 : Int) (H : Heap) (locs : List Loc) (ls : Array Slot), f_X3_addPassage_L3 fu o_tr o_fi o_la o_sh o_ac o_no x2 x3 x4 (f_X3_addPassage_X82 fu) n3 tr_m7 fi_m8 la_m9 sh_m10 ac_m11 no_m12 v13 = some (q_tr, q_fi, q_la, q_sh, q_ac, q_no) → va_P D vwCl [(wRo y a se tr_m7 fi_m8 la_m9 sh_m10 ac_m11 no_m12), (wRo y b o_se o_tr o_fi o_la o_sh o_ac o_no)].flatten H → va_D A [(wRo y a se tr_m7 fi_m8 la_m9 sh_m10 ac_m11 no_m12), (wRo y b o_se o_tr o_fi o_la o_sh o_ac o_no)].flatten → va_S A s.heap H locs → lv_has ls 8 [(0, .ref (a 0)), (1, .ref (b 0)), (2, .int (jI x2)), (3, .int (jI x3)), (4, .int (jI x4)), (5, .int (jI v13))] → W p l e R s m args below meth c H locs 0 0 Q (F0 m 3 ls []) := by
      intro n3
      induction n3 with
      | zero => intro _ _ _ _ _ _ _ H locs ls h_; have h_ : (none : Option ((Int → Int) × (Int → Int) × (Int → Int) × (Int → Int) × (Int → Int) × Int)) = some (q_tr, q_fi, q_la, q_sh, q_ac, q_no) := h_; cases h_
      | succ n3 ih3 =>
        intro tr_m7 fi_m8 la_m9 sh_m10 ac_m11 no_m12 v13 H locs ls h_ hP_ hD_ hS_ hl_
        replace h_ : f_X3_addPassage_L3_b fu o_tr o_fi o_la o_sh o_ac o_no x2 x3 x4 (f_X3_addPassage_X82 fu) (f_X3_addPassage_L3 fu o_tr o_fi o_la o_sh o_ac o_no x2 x3 x4 (f_X3_addPassage_X82 fu) n3) tr_m7 fi_m8 la_m9 sh_m10 ac_m11 no_m12 v13 = some (q_tr, q_fi, q_la, q_sh, q_ac, q_no) := h_
        unfold f_X3_addPassage_L3_b at h_
        refine lv_iload hx_ hb_ dX3_addPassage_3 (lv_at hl_ 5 rfl) ?_
        refine lv_aload_n hx_ hb_ dX3_addPassage_5 rfl (lv_at hl_ 1 rfl) ?_
        obtain ⟨v14, hv14, h_⟩ := jb_i h_
        refine jx_cvi (wr := [(wRo y a se tr_m7 fi_m8 la_m9 sh_m10 ac_m11 no_m12)]) (cw := [(wRo y b o_se o_tr o_fi o_la o_sh o_ac o_no)]) (cw1 := [(wRo y b o_se o_tr o_fi o_la o_sh o_ac o_no)]) (cs1 := [(wRo y a se tr_m7 fi_m8 la_m9 sh_m10 ac_m11 no_m12), (wRo y b o_se o_tr o_fi o_la o_sh o_ac o_no)]) (As := []) (rest := [.int (jI v13)]) ⟨hx_, hb_, hml_, hown_, hts_⟩ hM_ hP_ hD_ hS_ hA_ (jperm 2 [0, 1] rfl (by decide) rfl) (jperm 2 [0, 1] rfl (by decide) rfl) (c_X3_size l D y z b o_se o_tr o_fi o_la o_sh o_ac o_no fu v14 hv14) 0 gX3_addPassage_X3_size rfl ⟨rfl, rfl⟩ (by decide +kernel) ⟨by rw [hR_]; exact Nat.le_of_ble_eq_true rfl, by rw [hR_]; exact Nat.le_of_ble_eq_true rfl⟩ 0 3 rfl rfl rfl rfl rfl hl_.1 (Nat.le_of_ble_eq_true rfl) dX3_addPassage_6 ⟨Nat.zero_le _, Nat.zero_le _⟩ (fun H locs hP_ hD_ hS_ => ?_)
        refine jx_icmp_ge (tgt := 82) hx_ hb_ h_ dX3_addPassage_9 (by decide) (fun h_ => ?_) (fun h_ => ?_)
        · exact hX82 _ _ _ _ _ _ _ _ ls h_ hP_ hD_ hS_ (lv_sub hl_ [] rfl)
        · refine lv_aload_n hx_ hb_ dX3_addPassage_12 rfl (lv_at hl_ 1 rfl) ?_
          refine lv_iload hx_ hb_ dX3_addPassage_13 (lv_at hl_ 5 rfl) ?_
          refine lv_iload_n hx_ hb_ dX3_addPassage_15 rfl (lv_at hl_ 2 rfl) ?_
          refine lv_iload_n hx_ hb_ dX3_addPassage_16 rfl (lv_at hl_ 3 rfl) ?_
          obtain ⟨v15, hv15, h_⟩ := jb_i h_
          refine jx_cvi (wr := [(wRo y a se tr_m7 fi_m8 la_m9 sh_m10 ac_m11 no_m12)]) (cw := [(wRo y b o_se o_tr o_fi o_la o_sh o_ac o_no)]) (cw1 := [(wRo y b o_se o_tr o_fi o_la o_sh o_ac o_no)]) (cs1 := [(wRo y a se tr_m7 fi_m8 la_m9 sh_m10 ac_m11 no_m12), (wRo y b o_se o_tr o_fi o_la o_sh o_ac o_no)]) (As := [.int (jI v13), .int (jI x2), .int (jI x3)]) (rest := []) ⟨hx_, hb_, hml_, hown_, hts_⟩ hM_ hP_ hD_ hS_ hA_ (jperm 2 [0, 1] rfl (by decide) rfl) (jperm 2 [0, 1] rfl (by decide) rfl) (c_X3_liesWithin l D y z b o_se o_tr o_fi o_la o_sh o_ac o_no v13 x2 x3 fu v15 hv15) 3 gX3_addPassage_X3_liesWithin rfl ⟨rfl, rfl⟩ (by decide +kernel) ⟨by rw [hR_]; exact Nat.le_of_ble_eq_true rfl, by rw [hR_]; exact Nat.le_of_ble_eq_true rfl⟩ 0 3 rfl rfl rfl rfl rfl hl_.1 (Nat.le_of_ble_eq_true rfl) dX3_addPassage_17 ⟨Nat.zero_le _, Nat.zero_le _⟩ (fun H locs hP_ hD_ hS_ => ?_)
          refine jx_if_eq (tgt := 76) hx_ hb_ h_ dX3_addPassage_20 (by decide) (fun h_ => ?_) (fun h_ => ?_)
          · refine lv_iinc (v := jI (v13 + 1)) (lv' := [(5, .int (jI (v13 + 1))), (0, .ref (a 0)), (1, .ref (b 0)), (2, .int (jI x2)), (3, .int (jI x3)), (4, .int (jI x4))]) hx_ hb_ dX3_addPassage_76 hl_ (k := 5) rfl (jI_add _ _) (by decide) rfl (fun ls hl_ => ?_)
            refine lv_goto (tgt := 3) hx_ hb_ dX3_addPassage_79 (by decide) ?_
            exact ih3 _ _ _ _ _ _ _ _ _ ls h_ hP_ hD_ hS_ (lv_sub hl_ [1, 2, 3, 4, 5, 0] rfl)
          · refine lv_aload_n hx_ hb_ dX3_addPassage_23 rfl (lv_at hl_ 1 rfl) ?_
            refine lv_iload hx_ hb_ dX3_addPassage_24 (lv_at hl_ 5 rfl) ?_
            obtain ⟨v16, hv16, h_⟩ := jb_i h_
            refine jx_cvi (wr := [(wRo y a se tr_m7 fi_m8 la_m9 sh_m10 ac_m11 no_m12)]) (cw := [(wRo y b o_se o_tr o_fi o_la o_sh o_ac o_no)]) (cw1 := [(wRo y b o_se o_tr o_fi o_la o_sh o_ac o_no)]) (cs1 := [(wRo y a se tr_m7 fi_m8 la_m9 sh_m10 ac_m11 no_m12), (wRo y b o_se o_tr o_fi o_la o_sh o_ac o_no)]) (As := [.int (jI v13)]) (rest := []) ⟨hx_, hb_, hml_, hown_, hts_⟩ hM_ hP_ hD_ hS_ hA_ (jperm 2 [0, 1] rfl (by decide) rfl) (jperm 2 [0, 1] rfl (by decide) rfl) (c_X3_firstOf l D y z b o_se o_tr o_fi o_la o_sh o_ac o_no v13 fu v16 hv16) 1 gX3_addPassage_X3_firstOf rfl ⟨rfl, rfl⟩ (by decide +kernel) ⟨by rw [hR_]; exact Nat.le_of_ble_eq_true rfl, by rw [hR_]; exact Nat.le_of_ble_eq_true rfl⟩ 0 3 rfl rfl rfl rfl rfl hl_.1 (Nat.le_of_ble_eq_true rfl) dX3_addPassage_26 ⟨Nat.zero_le _, Nat.zero_le _⟩ (fun H locs hP_ hD_ hS_ => ?_)
            refine lv_iload_n hx_ hb_ dX3_addPassage_29 rfl (lv_at hl_ 2 rfl) ?_
            refine jx_isub hx_ hb_ dX3_addPassage_30 ?_
            refine lv_iload hx_ hb_ dX3_addPassage_31 (lv_at hl_ 4 rfl) ?_
            refine jx_iadd hx_ hb_ dX3_addPassage_33 ?_
            refine lv_istore (lv' := [(6, .int (jI ((v16 - x2) + x4))), (0, .ref (a 0)), (1, .ref (b 0)), (2, .int (jI x2)), (3, .int (jI x3)), (4, .int (jI x4)), (5, .int (jI v13))]) hx_ hb_ dX3_addPassage_34 hl_ (by decide) rfl (fun ls hl_ => ?_)
            refine lv_aload_n hx_ hb_ dX3_addPassage_36 rfl (lv_at hl_ 2 rfl) ?_
            refine lv_iload hx_ hb_ dX3_addPassage_37 (lv_at hl_ 6 rfl) ?_
            obtain ⟨v17, hv17, h_⟩ := jb_i h_
            refine jx_cvi (wr := [(wRo y a se tr_m7 fi_m8 la_m9 sh_m10 ac_m11 no_m12)]) (cw := [(wRo y b o_se o_tr o_fi o_la o_sh o_ac o_no)]) (cw1 := [(wRo y b o_se o_tr o_fi o_la o_sh o_ac o_no)]) (cs1 := [(wRo y a se tr_m7 fi_m8 la_m9 sh_m10 ac_m11 no_m12), (wRo y b o_se o_tr o_fi o_la o_sh o_ac o_no)]) (As := [.int (jI v13)]) (rest := []) ⟨hx_, hb_, hml_, hown_, hts_⟩ hM_ hP_ hD_ hS_ hA_ (jperm 2 [0, 1] rfl (by decide) rfl) (jperm 2 [0, 1] rfl (by decide) rfl) (c_X3_lastOf l D y z b o_se o_tr o_fi o_la o_sh o_ac o_no v13 fu v17 hv17) 1 gX3_addPassage_X3_lastOf rfl ⟨rfl, rfl⟩ (by decide +kernel) ⟨by rw [hR_]; exact Nat.le_of_ble_eq_true rfl, by rw [hR_]; exact Nat.le_of_ble_eq_true rfl⟩ 0 3 rfl rfl rfl rfl rfl hl_.1 (Nat.le_of_ble_eq_true rfl) dX3_addPassage_39 ⟨Nat.zero_le _, Nat.zero_le _⟩ (fun H locs hP_ hD_ hS_ => ?_)
            refine lv_iload_n hx_ hb_ dX3_addPassage_42 rfl (lv_at hl_ 3 rfl) ?_
            refine jx_isub hx_ hb_ dX3_addPassage_43 ?_
            refine lv_iload hx_ hb_ dX3_addPassage_44 (lv_at hl_ 5 rfl) ?_
            refine jx_iadd hx_ hb_ dX3_addPassage_46 ?_
            refine lv_istore (lv' := [(7, .int (jI ((v17 - x2) + x4))), (6, .int (jI ((v16 - x2) + x4))), (0, .ref (a 0)), (1, .ref (b 0)), (2, .int (jI x2)), (3, .int (jI x3)), (4, .int (jI x4)), (5, .int (jI v13))]) hx_ hb_ dX3_addPassage_47 hl_ (by decide) rfl (fun ls hl_ => ?_)
            refine lv_aload_n hx_ hb_ dX3_addPassage_49 rfl (lv_at hl_ 2 rfl) ?_
            refine lv_aload_n hx_ hb_ dX3_addPassage_50 rfl (lv_at hl_ 3 rfl) ?_
            refine lv_iload hx_ hb_ dX3_addPassage_51 (lv_at hl_ 7 rfl) ?_
            obtain ⟨v18, hv18, h_⟩ := jb_i h_
            refine jx_cvi (wr := [(wRo y a se tr_m7 fi_m8 la_m9 sh_m10 ac_m11 no_m12)]) (cw := [(wRo y b o_se o_tr o_fi o_la o_sh o_ac o_no)]) (cw1 := [(wRo y b o_se o_tr o_fi o_la o_sh o_ac o_no)]) (cs1 := [(wRo y a se tr_m7 fi_m8 la_m9 sh_m10 ac_m11 no_m12), (wRo y b o_se o_tr o_fi o_la o_sh o_ac o_no)]) (As := [.int (jI v13)]) (rest := [.ref (a 0)]) ⟨hx_, hb_, hml_, hown_, hts_⟩ hM_ hP_ hD_ hS_ hA_ (jperm 2 [0, 1] rfl (by decide) rfl) (jperm 2 [0, 1] rfl (by decide) rfl) (c_X3_trackOf l D y z b o_se o_tr o_fi o_la o_sh o_ac o_no v13 fu v18 hv18) 1 gX3_addPassage_X3_trackOf rfl ⟨rfl, rfl⟩ (by decide +kernel) ⟨by rw [hR_]; exact Nat.le_of_ble_eq_true rfl, by rw [hR_]; exact Nat.le_of_ble_eq_true rfl⟩ 0 3 rfl rfl rfl rfl rfl hl_.1 (Nat.le_of_ble_eq_true rfl) dX3_addPassage_53 ⟨Nat.zero_le _, Nat.zero_le _⟩ (fun H locs hP_ hD_ hS_ => ?_)
            refine lv_iload hx_ hb_ dX3_addPassage_56 (lv_at hl_ 1 rfl) ?_
            refine lv_iload hx_ hb_ dX3_addPassage_58 (lv_at hl_ 0 rfl) ?_
            refine lv_aload_n hx_ hb_ dX3_addPassage_60 rfl (lv_at hl_ 3 rfl) ?_
            refine lv_iload hx_ hb_ dX3_addPassage_61 (lv_at hl_ 7 rfl) ?_
            obtain ⟨v19, hv19, h_⟩ := jb_i h_
            refine jx_cvi (wr := [(wRo y a se tr_m7 fi_m8 la_m9 sh_m10 ac_m11 no_m12)]) (cw := [(wRo y b o_se o_tr o_fi o_la o_sh o_ac o_no)]) (cw1 := [(wRo y b o_se o_tr o_fi o_la o_sh o_ac o_no)]) (cs1 := [(wRo y a se tr_m7 fi_m8 la_m9 sh_m10 ac_m11 no_m12), (wRo y b o_se o_tr o_fi o_la o_sh o_ac o_no)]) (As := [.int (jI v13)]) (rest := [.int (jI ((v17 - x2) + x4)), .int (jI ((v16 - x2) + x4)), .int (jI v18), .ref (a 0)]) ⟨hx_, hb_, hml_, hown_, hts_⟩ hM_ hP_ hD_ hS_ hA_ (jperm 2 [0, 1] rfl (by decide) rfl) (jperm 2 [0, 1] rfl (by decide) rfl) (c_X3_shiftOf l D y z b o_se o_tr o_fi o_la o_sh o_ac o_no v13 fu v19 hv19) 1 gX3_addPassage_X3_shiftOf rfl ⟨rfl, rfl⟩ (by decide +kernel) ⟨by rw [hR_]; exact Nat.le_of_ble_eq_true rfl, by rw [hR_]; exact Nat.le_of_ble_eq_true rfl⟩ 0 3 rfl rfl rfl rfl rfl hl_.1 (Nat.le_of_ble_eq_true rfl) dX3_addPassage_63 ⟨Nat.zero_le _, Nat.zero_le _⟩ (fun H locs hP_ hD_ hS_ => ?_)
            refine lv_aload_n hx_ hb_ dX3_addPassage_66 rfl (lv_at hl_ 3 rfl) ?_
            refine lv_iload hx_ hb_ dX3_addPassage_67 (lv_at hl_ 7 rfl) ?_
            obtain ⟨v20, hv20, h_⟩ := jb_i h_
            refine jx_cvi (wr := [(wRo y a se tr_m7 fi_m8 la_m9 sh_m10 ac_m11 no_m12)]) (cw := [(wRo y b o_se o_tr o_fi o_la o_sh o_ac o_no)]) (cw1 := [(wRo y b o_se o_tr o_fi o_la o_sh o_ac o_no)]) (cs1 := [(wRo y a se tr_m7 fi_m8 la_m9 sh_m10 ac_m11 no_m12), (wRo y b o_se o_tr o_fi o_la o_sh o_ac o_no)]) (As := [.int (jI v13)]) (rest := [.int (jI v19), .int (jI ((v17 - x2) + x4)), .int (jI ((v16 - x2) + x4)), .int (jI v18), .ref (a 0)]) ⟨hx_, hb_, hml_, hown_, hts_⟩ hM_ hP_ hD_ hS_ hA_ (jperm 2 [0, 1] rfl (by decide) rfl) (jperm 2 [0, 1] rfl (by decide) rfl) (c_X3_hasAccent l D y z b o_se o_tr o_fi o_la o_sh o_ac o_no v13 fu v20 hv20) 1 gX3_addPassage_X3_hasAccent rfl ⟨rfl, rfl⟩ (by decide +kernel) ⟨by rw [hR_]; exact Nat.le_of_ble_eq_true rfl, by rw [hR_]; exact Nat.le_of_ble_eq_true rfl⟩ 0 3 rfl rfl rfl rfl rfl hl_.1 (Nat.le_of_ble_eq_true rfl) dX3_addPassage_69 ⟨Nat.zero_le _, Nat.zero_le _⟩ (fun H locs hP_ hD_ hS_ => ?_)
            obtain ⟨v21, tr_m22, fi_m23, la_m24, sh_m25, ac_m26, no_m27, hv21, h_⟩ := jb7_i h_
            refine jx_cvi (wr := [(wRo y b o_se o_tr o_fi o_la o_sh o_ac o_no)]) (cw := [(wRo y a se tr_m7 fi_m8 la_m9 sh_m10 ac_m11 no_m12)]) (cw1 := [(wRo y a se tr_m22 fi_m23 la_m24 sh_m25 ac_m26 no_m27)]) (cs1 := [(wRo y a se tr_m22 fi_m23 la_m24 sh_m25 ac_m26 no_m27), (wRo y b o_se o_tr o_fi o_la o_sh o_ac o_no)]) (As := [.int (jI v18), .int (jI ((v16 - x2) + x4)), .int (jI ((v17 - x2) + x4)), .int (jI v19), .int (jI v20)]) (rest := []) ⟨hx_, hb_, hml_, hown_, hts_⟩ hM_ hP_ hD_ hS_ hA_ (jperm 2 [1, 0] rfl (by decide) rfl) (jperm 2 [1, 0] rfl (by decide) rfl) (c_X3_add l D y z a se tr_m7 fi_m8 la_m9 sh_m10 ac_m11 no_m12 v18 ((v16 - x2) + x4) ((v17 - x2) + x4) v19 v20 fu v21 tr_m22 fi_m23 la_m24 sh_m25 ac_m26 no_m27 hv21) 5 gX3_addPassage_X3_add rfl ⟨rfl, rfl⟩ (by decide +kernel) ⟨by rw [hR_]; exact Nat.le_of_ble_eq_true rfl, by rw [hR_]; exact Nat.le_of_ble_eq_true rfl⟩ 0 3 rfl rfl rfl rfl rfl hl_.1 (Nat.le_of_ble_eq_true rfl) dX3_addPassage_72 ⟨Nat.zero_le _, Nat.zero_le _⟩ (fun H locs hP_ hD_ hS_ => ?_)
            refine lv_pop hx_ hb_ dX3_addPassage_75 rfl ?_
            refine lv_iinc (v := jI (v13 + 1)) (lv' := [(5, .int (jI (v13 + 1))), (7, .int (jI ((v17 - x2) + x4))), (6, .int (jI ((v16 - x2) + x4))), (0, .ref (a 0)), (1, .ref (b 0)), (2, .int (jI x2)), (3, .int (jI x3)), (4, .int (jI x4))]) hx_ hb_ dX3_addPassage_76 hl_ (k := 7) rfl (jI_add _ _) (by decide) rfl (fun ls hl_ => ?_)
            refine lv_goto (tgt := 3) hx_ hb_ dX3_addPassage_79 (by decide) ?_
            exact ih3 _ _ _ _ _ _ _ _ _ ls h_ hP_ hD_ hS_ (lv_sub hl_ [3, 4, 5, 6, 7, 0] rfl)
    exact hL3 fu _ _ _ _ _ _ _ _ _ ls h_ hP_ hD_ hS_ (lv_sub hl_ [1, 2, 3, 4, 5, 0] rfl)
  exact key_ _ (fun tr9 fi9 la9 sh9 ac9 no9 H locs pc ls h9_ hdg_ hP_ hD_ hS_ => by cases h9_; exact jend_v hx_ hb_ hr_ hlocks_ hP_ hD_ hS_ hdg_)
def rm_X3_isHole : Room := { frames := 2, cells := 0, slots := 0, locals := 42 }
set_option maxRecDepth 100000 in
set_option maxHeartbeats 8000000 in
theorem c_X3_isHole (l : Launch) (D : va_G) (y : Nat → ClassId) (z : Nat → Nat) (a : Nat → Nat) (se : Int → Int) (tr : Int → Int) (fi : Int → Int) (la : Int → Int) (sh : Int → Int) (ac : Int → Int) (no : Int) (x1 : Int) (x2 : Int) (fu : Nat) (rr : Int) (h_ : f_X3_isHole fu se fi la sh no x1 x2 = some rr) : jCI l D y z yX3_isHole wsX3_isHole rm_X3_isHole [.ref (a 0), .int (jI x1), .int (jI x2)] [(wRo y a se tr fi la sh ac no)] [(wRo y a se tr fi la sh ac no)] rr := by
  intro sz
  refine jmet (Qc := (fun A => va_Qi (fun v (_ : Unit) => v = jI rr) (jB D A [(wRo y a se tr fi la sh ac no)]) A)) (cc := cX3_isHole) (maxL := 5) (ret := (some .boolean)) (own := RX3) (by decide) rfl (Nat.le_of_ble_eq_true rfl) rfl (fun p e s m R args below meth c A ls hR_ hargs_ hx_ hb_ hr_ hlocks_ hml_ hown_ hts_ hname_ hsz_ hP_ hD_ hA_ hM_ hl_ => ?_)
  have key_ : ∀ Q : State → Prop, (∀ (v9 : Int) (H : Heap) (locs : List Loc) (pc : Nat) (ls : Array Slot), some v9 = some rr → (v9 = 0 ∨ v9 = 1) → decode cX3_isHole pc = .ok (.ireturn, 1) → va_P D vwCl [(wRo y a se tr fi la sh ac no)].flatten H → va_D A [(wRo y a se tr fi la sh ac no)].flatten → va_S A s.heap H locs → W p l e R s m args below meth c H locs 0 0 Q (F0 m pc ls [.int (jI v9)])) → W p l e R s m args below meth c s.heap [] 0 0 Q (F0 m 0 ls []) := by
    intro Q hE_
    have hS_ : va_S A s.heap s.heap [] := va_S.rf
    have hl_ : lv_has ls 5 [(0, .ref (a 0)), (1, .int (jI x1)), (2, .int (jI x2))] := hl_
    have hin_ : ∀ w ∈ u_ws RX3 TX3 7, w ∈ wsX3_isHole := by decide +kernel
    unfold f_X3_isHole at h_
    refine lv_iload_n hx_ hb_ dX3_isHole_0 rfl (lv_at hl_ 2 rfl) ?_
    refine lv_aload_n hx_ hb_ dX3_isHole_1 rfl (lv_at hl_ 0 rfl) ?_
    refine lv_iload_n hx_ hb_ dX3_isHole_2 rfl (lv_at hl_ 1 rfl) ?_
    obtain ⟨v1, hv1, h_⟩ := jb_i h_
    refine jx_cvi (wr := []) (cw := [(wRo y a se tr fi la sh ac no)]) (cw1 := [(wRo y a se tr fi la sh ac no)]) (cs1 := [(wRo y a se tr fi la sh ac no)]) (As := [.int (jI x1)]) (rest := [.int (jI x2)]) ⟨hx_, hb_, hml_, hown_, hts_⟩ hM_ hP_ hD_ hS_ hA_ (List.Perm.refl _) (List.Perm.refl _) (c_X3_firstOf l D y z a se tr fi la sh ac no x1 fu v1 hv1) 1 gX3_isHole_X3_firstOf rfl ⟨rfl, rfl⟩ (by decide +kernel) ⟨by rw [hR_]; exact Nat.le_of_ble_eq_true rfl, by rw [hR_]; exact Nat.le_of_ble_eq_true rfl⟩ 0 3 rfl rfl rfl rfl rfl hl_.1 (Nat.le_of_ble_eq_true rfl) dX3_isHole_3 ⟨Nat.zero_le _, Nat.zero_le _⟩ (fun H locs hP_ hD_ hS_ => ?_)
    refine jx_icmp_eq (tgt := 18) hx_ hb_ h_ dX3_isHole_6 (by decide) (fun h_ => ?_) (fun h_ => ?_)
    · refine lv_iconst (v := jI 1) hx_ hb_ dX3_isHole_18 (by decide +kernel) ?_
      obtain ⟨hz_, h_⟩ := jbo_i h_
      exact hE_ _ _ _ _ _ h_ hz_ dX3_isHole_19 hP_ hD_ hS_
    · refine lv_iload_n hx_ hb_ dX3_isHole_9 rfl (lv_at hl_ 2 rfl) ?_
      refine lv_aload_n hx_ hb_ dX3_isHole_10 rfl (lv_at hl_ 0 rfl) ?_
      refine lv_iload_n hx_ hb_ dX3_isHole_11 rfl (lv_at hl_ 1 rfl) ?_
      obtain ⟨v2, hv2, h_⟩ := jb_i h_
      refine jx_cvi (wr := []) (cw := [(wRo y a se tr fi la sh ac no)]) (cw1 := [(wRo y a se tr fi la sh ac no)]) (cs1 := [(wRo y a se tr fi la sh ac no)]) (As := [.int (jI x1)]) (rest := [.int (jI x2)]) ⟨hx_, hb_, hml_, hown_, hts_⟩ hM_ hP_ hD_ hS_ hA_ (List.Perm.refl _) (List.Perm.refl _) (c_X3_lastOf l D y z a se tr fi la sh ac no x1 fu v2 hv2) 1 gX3_isHole_X3_lastOf rfl ⟨rfl, rfl⟩ (by decide +kernel) ⟨by rw [hR_]; exact Nat.le_of_ble_eq_true rfl, by rw [hR_]; exact Nat.le_of_ble_eq_true rfl⟩ 0 3 rfl rfl rfl rfl rfl hl_.1 (Nat.le_of_ble_eq_true rfl) dX3_isHole_12 ⟨Nat.zero_le _, Nat.zero_le _⟩ (fun H locs hP_ hD_ hS_ => ?_)
      refine jx_icmp_ne (tgt := 20) hx_ hb_ h_ dX3_isHole_15 (by decide) (fun h_ => ?_) (fun h_ => ?_)
      · refine lv_aload_n hx_ hb_ dX3_isHole_20 rfl (lv_at hl_ 0 rfl) ?_
        refine va_get (D := D) (ci := 3) (v := .ref (a 1)) (C := RX3) (T := TX3) (N := 7) hx_ hb_ hts_ hin_ hown_ hM_.1 hP_ 0 rfl rfl 0 (by decide) (hts_ (.fieldLink RX3 9 "MusicHoles$Roll" "settings" "[I") (by decide +kernel)) (fun _ h9_ => h9_) rfl dX3_isHole_21 ?_
        refine lv_iconst (v := jI 0) hx_ hb_ dX3_isHole_24 (by decide +kernel) ?_
        refine jx_iald hx_ hb_ hM_ hP_ 1 0 rfl rfl rfl (Nat.le_of_ble_eq_true rfl) h_ dX3_isHole_25 (fun h_ => ?_)
        refine lv_aload_n hx_ hb_ dX3_isHole_26 rfl (lv_at hl_ 0 rfl) ?_
        refine va_get (D := D) (ci := 3) (v := .ref (a 1)) (C := RX3) (T := TX3) (N := 7) hx_ hb_ hts_ hin_ hown_ hM_.1 hP_ 0 rfl rfl 0 (by decide) (hts_ (.fieldLink RX3 9 "MusicHoles$Roll" "settings" "[I") (by decide +kernel)) (fun _ h9_ => h9_) rfl dX3_isHole_27 ?_
        refine lv_iconst (v := jI 1) hx_ hb_ dX3_isHole_30 (by decide +kernel) ?_
        refine jx_iald hx_ hb_ hM_ hP_ 1 0 rfl rfl rfl (Nat.le_of_ble_eq_true rfl) h_ dX3_isHole_31 (fun h_ => ?_)
        refine jx_iadd hx_ hb_ dX3_isHole_32 ?_
        refine lv_istore_n (lv' := [(3, .int (jI ((se 0) + (se 1)))), (0, .ref (a 0)), (1, .int (jI x1)), (2, .int (jI x2))]) hx_ hb_ dX3_isHole_33 rfl hl_ (by decide) rfl (fun ls hl_ => ?_)
        refine lv_iload_n hx_ hb_ dX3_isHole_34 rfl (lv_at hl_ 3 rfl) ?_
        refine lv_aload_n hx_ hb_ dX3_isHole_35 rfl (lv_at hl_ 1 rfl) ?_
        refine lv_iload_n hx_ hb_ dX3_isHole_36 rfl (lv_at hl_ 2 rfl) ?_
        obtain ⟨v3, hv3, h_⟩ := jb_i h_
        refine jx_cvi (wr := []) (cw := [(wRo y a se tr fi la sh ac no)]) (cw1 := [(wRo y a se tr fi la sh ac no)]) (cs1 := [(wRo y a se tr fi la sh ac no)]) (As := [.int (jI x1)]) (rest := [.int (jI x2)]) ⟨hx_, hb_, hml_, hown_, hts_⟩ hM_ hP_ hD_ hS_ hA_ (List.Perm.refl _) (List.Perm.refl _) (c_X3_firstOf l D y z a se tr fi la sh ac no x1 fu v3 hv3) 1 gX3_isHole_X3_firstOf rfl ⟨rfl, rfl⟩ (by decide +kernel) ⟨by rw [hR_]; exact Nat.le_of_ble_eq_true rfl, by rw [hR_]; exact Nat.le_of_ble_eq_true rfl⟩ 0 3 rfl rfl rfl rfl rfl hl_.1 (Nat.le_of_ble_eq_true rfl) dX3_isHole_37 ⟨Nat.zero_le _, Nat.zero_le _⟩ (fun H locs hP_ hD_ hS_ => ?_)
        refine jx_isub hx_ hb_ dX3_isHole_40 ?_
        refine lv_aload_n hx_ hb_ dX3_isHole_41 rfl (lv_at hl_ 1 rfl) ?_
        refine lv_iload_n hx_ hb_ dX3_isHole_42 rfl (lv_at hl_ 2 rfl) ?_
        obtain ⟨v4, hv4, h_⟩ := jb_i h_
        refine jx_cvi (wr := []) (cw := [(wRo y a se tr fi la sh ac no)]) (cw1 := [(wRo y a se tr fi la sh ac no)]) (cs1 := [(wRo y a se tr fi la sh ac no)]) (As := [.int (jI x1)]) (rest := [.int (jI (x2 - v3))]) ⟨hx_, hb_, hml_, hown_, hts_⟩ hM_ hP_ hD_ hS_ hA_ (List.Perm.refl _) (List.Perm.refl _) (c_X3_shiftOf l D y z a se tr fi la sh ac no x1 fu v4 hv4) 1 gX3_isHole_X3_shiftOf rfl ⟨rfl, rfl⟩ (by decide +kernel) ⟨by rw [hR_]; exact Nat.le_of_ble_eq_true rfl, by rw [hR_]; exact Nat.le_of_ble_eq_true rfl⟩ 0 3 rfl rfl rfl rfl rfl hl_.1 (Nat.le_of_ble_eq_true rfl) dX3_isHole_43 ⟨Nat.zero_le _, Nat.zero_le _⟩ (fun H locs hP_ hD_ hS_ => ?_)
        refine jx_iadd hx_ hb_ dX3_isHole_46 ?_
        refine lv_istore (lv' := [(4, .int (jI ((x2 - v3) + v4))), (3, .int (jI ((se 0) + (se 1)))), (0, .ref (a 0)), (1, .int (jI x1)), (2, .int (jI x2))]) hx_ hb_ dX3_isHole_47 hl_ (by decide) rfl (fun ls hl_ => ?_)
        refine lv_iload_n hx_ hb_ dX3_isHole_49 rfl (lv_at hl_ 1 rfl) ?_
        refine jx_if_le (tgt := 70) hx_ hb_ h_ dX3_isHole_50 (by decide) (fun h_ => ?_) (fun h_ => ?_)
        · refine lv_iconst (v := jI 0) hx_ hb_ dX3_isHole_70 (by decide +kernel) ?_
          obtain ⟨hz_, h_⟩ := jbo_i h_
          exact hE_ _ _ _ _ _ h_ hz_ dX3_isHole_71 hP_ hD_ hS_
        · refine lv_iload hx_ hb_ dX3_isHole_53 (lv_at hl_ 0 rfl) ?_
          refine lv_iload_n hx_ hb_ dX3_isHole_55 rfl (lv_at hl_ 1 rfl) ?_
          refine jx_irem hx_ hb_ h_ dX3_isHole_56 (fun h_ => ?_)
          refine lv_aload_n hx_ hb_ dX3_isHole_57 rfl (lv_at hl_ 2 rfl) ?_
          refine va_get (D := D) (ci := 3) (v := .ref (a 1)) (C := RX3) (T := TX3) (N := 7) hx_ hb_ hts_ hin_ hown_ hM_.1 hP_ 0 rfl rfl 0 (by decide) (hts_ (.fieldLink RX3 9 "MusicHoles$Roll" "settings" "[I") (by decide +kernel)) (fun _ h9_ => h9_) rfl dX3_isHole_58 ?_
          refine lv_iconst (v := jI 0) hx_ hb_ dX3_isHole_61 (by decide +kernel) ?_
          refine jx_iald hx_ hb_ hM_ hP_ 1 0 rfl rfl rfl (Nat.le_of_ble_eq_true rfl) h_ dX3_isHole_62 (fun h_ => ?_)
          refine jx_icmp_ge (tgt := 70) hx_ hb_ h_ dX3_isHole_63 (by decide) (fun h_ => ?_) (fun h_ => ?_)
          · refine lv_iconst (v := jI 0) hx_ hb_ dX3_isHole_70 (by decide +kernel) ?_
            obtain ⟨hz_, h_⟩ := jbo_i h_
            exact hE_ _ _ _ _ _ h_ hz_ dX3_isHole_71 hP_ hD_ hS_
          · refine lv_iconst (v := jI 1) hx_ hb_ dX3_isHole_66 (by decide +kernel) ?_
            refine lv_goto (tgt := 71) hx_ hb_ dX3_isHole_67 (by decide) ?_
            obtain ⟨hz_, h_⟩ := jbo_i h_
            exact hE_ _ _ _ _ _ h_ hz_ dX3_isHole_71 hP_ hD_ hS_
      · refine lv_iconst (v := jI 1) hx_ hb_ dX3_isHole_18 (by decide +kernel) ?_
        obtain ⟨hz_, h_⟩ := jbo_i h_
        exact hE_ _ _ _ _ _ h_ hz_ dX3_isHole_19 hP_ hD_ hS_
  exact key_ _ (fun v9 H locs pc ls h9_ hz_ hdg_ hP_ hD_ hS_ => by cases h9_; exact jend_z hx_ hb_ hr_ hlocks_ hz_ hP_ hD_ hS_ hdg_)
def rm_X3_bridges : Room := { frames := 3, cells := 0, slots := 0, locals := 66 }
set_option maxRecDepth 100000 in
set_option maxHeartbeats 8000000 in
theorem c_X3_bridges (l : Launch) (D : va_G) (y : Nat → ClassId) (z : Nat → Nat) (a : Nat → Nat) (se : Int → Int) (tr : Int → Int) (fi : Int → Int) (la : Int → Int) (sh : Int → Int) (ac : Int → Int) (no : Int) (x1 : Int) (fu : Nat) (rr : Int) (h_ : f_X3_bridges fu se fi la sh no x1 = some rr) : jCI l D y z yX3_bridges wsX3_bridges rm_X3_bridges [.ref (a 0), .int (jI x1)] [(wRo y a se tr fi la sh ac no)] [(wRo y a se tr fi la sh ac no)] rr := by
  intro sz
  refine jmet (Qc := (fun A => va_Qi (fun v (_ : Unit) => v = jI rr) (jB D A [(wRo y a se tr fi la sh ac no)]) A)) (cc := cX3_bridges) (maxL := 4) (ret := (some .int)) (own := RX3) (by decide) rfl (Nat.le_of_ble_eq_true rfl) rfl (fun p e s m R args below meth c A ls hR_ hargs_ hx_ hb_ hr_ hlocks_ hml_ hown_ hts_ hname_ hsz_ hP_ hD_ hA_ hM_ hl_ => ?_)
  have key_ : ∀ Q : State → Prop, (∀ (v9 : Int) (H : Heap) (locs : List Loc) (pc : Nat) (ls : Array Slot), some v9 = some rr → decode cX3_bridges pc = .ok (.ireturn, 1) → va_P D vwCl [(wRo y a se tr fi la sh ac no)].flatten H → va_D A [(wRo y a se tr fi la sh ac no)].flatten → va_S A s.heap H locs → W p l e R s m args below meth c H locs 0 0 Q (F0 m pc ls [.int (jI v9)])) → W p l e R s m args below meth c s.heap [] 0 0 Q (F0 m 0 ls []) := by
    intro Q hE_
    have hS_ : va_S A s.heap s.heap [] := va_S.rf
    have hl_ : lv_has ls 4 [(0, .ref (a 0)), (1, .int (jI x1))] := hl_
    have hin_ : ∀ w ∈ u_ws RX3 TX3 7, w ∈ wsX3_bridges := by decide +kernel
    unfold f_X3_bridges at h_
    refine lv_iconst (v := jI 0) hx_ hb_ dX3_bridges_0 (by decide +kernel) ?_
    refine lv_istore_n (lv' := [(2, .int (jI 0)), (0, .ref (a 0)), (1, .int (jI x1))]) hx_ hb_ dX3_bridges_1 rfl hl_ (by decide) rfl (fun ls hl_ => ?_)
    refine lv_aload_n hx_ hb_ dX3_bridges_2 rfl (lv_at hl_ 1 rfl) ?_
    refine lv_iload_n hx_ hb_ dX3_bridges_3 rfl (lv_at hl_ 2 rfl) ?_
    obtain ⟨v1, hv1, h_⟩ := jb_i h_
    refine jx_cvi (wr := []) (cw := [(wRo y a se tr fi la sh ac no)]) (cw1 := [(wRo y a se tr fi la sh ac no)]) (cs1 := [(wRo y a se tr fi la sh ac no)]) (As := [.int (jI x1)]) (rest := []) ⟨hx_, hb_, hml_, hown_, hts_⟩ hM_ hP_ hD_ hS_ hA_ (List.Perm.refl _) (List.Perm.refl _) (c_X3_firstOf l D y z a se tr fi la sh ac no x1 fu v1 hv1) 1 gX3_bridges_X3_firstOf rfl ⟨rfl, rfl⟩ (by decide +kernel) ⟨by rw [hR_]; exact Nat.le_of_ble_eq_true rfl, by rw [hR_]; exact Nat.le_of_ble_eq_true rfl⟩ 0 3 rfl rfl rfl rfl rfl hl_.1 (Nat.le_of_ble_eq_true rfl) dX3_bridges_4 ⟨Nat.zero_le _, Nat.zero_le _⟩ (fun H locs hP_ hD_ hS_ => ?_)
    refine lv_istore_n (lv' := [(3, .int (jI v1)), (2, .int (jI 0)), (0, .ref (a 0)), (1, .int (jI x1))]) hx_ hb_ dX3_bridges_7 rfl hl_ (by decide) rfl (fun ls hl_ => ?_)
    have hX35 : ∀ (v2 : Int) (H : Heap) (locs : List Loc) (ls : Array Slot), f_X3_bridges_X35 fu v2 = some rr → va_P D vwCl [(wRo y a se tr fi la sh ac no)].flatten H → va_D A [(wRo y a se tr fi la sh ac no)].flatten → va_S A s.heap H locs → lv_has ls 4 [(2, .int (jI v2))] → W p l e R s m args below meth c H locs 0 0 Q (F0 m 35 ls []) := by
      intro v2 H locs ls h_ hP_ hD_ hS_ hl_
      unfold f_X3_bridges_X35 at h_
      refine lv_iload_n hx_ hb_ dX3_bridges_35 rfl (lv_at hl_ 0 rfl) ?_
      exact hE_ _ _ _ _ _ h_ dX3_bridges_36 hP_ hD_ hS_
    have hL8 : ∀ n8 : Nat, ∀ (v3 : Int) (v4 : Int) (H : Heap) (locs : List Loc) (ls : Array Slot), f_X3_bridges_L8 fu se fi la sh no x1 (f_X3_bridges_X35 fu) n8 v3 v4 = some rr → va_P D vwCl [(wRo y a se tr fi la sh ac no)].flatten H → va_D A [(wRo y a se tr fi la sh ac no)].flatten → va_S A s.heap H locs → lv_has ls 4 [(0, .ref (a 0)), (1, .int (jI x1)), (2, .int (jI v3)), (3, .int (jI v4))] → W p l e R s m args below meth c H locs 0 0 Q (F0 m 8 ls []) := by
      intro n8
      induction n8 with
      | zero => intro _ _ H locs ls h_; have h_ : (none : Option (Int)) = some rr := h_; cases h_
      | succ n8 ih8 =>
        intro v3 v4 H locs ls h_ hP_ hD_ hS_ hl_
        replace h_ : f_X3_bridges_L8_b fu se fi la sh no x1 (f_X3_bridges_X35 fu) (f_X3_bridges_L8 fu se fi la sh no x1 (f_X3_bridges_X35 fu) n8) v3 v4 = some rr := h_
        unfold f_X3_bridges_L8_b at h_
        refine lv_iload_n hx_ hb_ dX3_bridges_8 rfl (lv_at hl_ 3 rfl) ?_
        refine lv_aload_n hx_ hb_ dX3_bridges_9 rfl (lv_at hl_ 0 rfl) ?_
        refine lv_iload_n hx_ hb_ dX3_bridges_10 rfl (lv_at hl_ 1 rfl) ?_
        obtain ⟨v5, hv5, h_⟩ := jb_i h_
        refine jx_cvi (wr := []) (cw := [(wRo y a se tr fi la sh ac no)]) (cw1 := [(wRo y a se tr fi la sh ac no)]) (cs1 := [(wRo y a se tr fi la sh ac no)]) (As := [.int (jI x1)]) (rest := [.int (jI v4)]) ⟨hx_, hb_, hml_, hown_, hts_⟩ hM_ hP_ hD_ hS_ hA_ (List.Perm.refl _) (List.Perm.refl _) (c_X3_lastOf l D y z a se tr fi la sh ac no x1 fu v5 hv5) 1 gX3_bridges_X3_lastOf rfl ⟨rfl, rfl⟩ (by decide +kernel) ⟨by rw [hR_]; exact Nat.le_of_ble_eq_true rfl, by rw [hR_]; exact Nat.le_of_ble_eq_true rfl⟩ 0 3 rfl rfl rfl rfl rfl hl_.1 (Nat.le_of_ble_eq_true rfl) dX3_bridges_11 ⟨Nat.zero_le _, Nat.zero_le _⟩ (fun H locs hP_ hD_ hS_ => ?_)
        refine jx_icmp_gt (tgt := 35) hx_ hb_ h_ dX3_bridges_14 (by decide) (fun h_ => ?_) (fun h_ => ?_)
        · exact hX35 _ _ _ ls h_ hP_ hD_ hS_ (lv_sub hl_ [2] rfl)
        · refine lv_aload_n hx_ hb_ dX3_bridges_17 rfl (lv_at hl_ 0 rfl) ?_
          refine lv_iload_n hx_ hb_ dX3_bridges_18 rfl (lv_at hl_ 1 rfl) ?_
          refine lv_iload_n hx_ hb_ dX3_bridges_19 rfl (lv_at hl_ 3 rfl) ?_
          obtain ⟨v6, hv6, h_⟩ := jb_i h_
          refine jx_cvi (wr := []) (cw := [(wRo y a se tr fi la sh ac no)]) (cw1 := [(wRo y a se tr fi la sh ac no)]) (cs1 := [(wRo y a se tr fi la sh ac no)]) (As := [.int (jI x1), .int (jI v4)]) (rest := []) ⟨hx_, hb_, hml_, hown_, hts_⟩ hM_ hP_ hD_ hS_ hA_ (List.Perm.refl _) (List.Perm.refl _) (c_X3_isHole l D y z a se tr fi la sh ac no x1 v4 fu v6 hv6) 2 gX3_bridges_X3_isHole rfl ⟨rfl, rfl⟩ (by decide +kernel) ⟨by rw [hR_]; exact Nat.le_of_ble_eq_true rfl, by rw [hR_]; exact Nat.le_of_ble_eq_true rfl⟩ 0 3 rfl rfl rfl rfl rfl hl_.1 (Nat.le_of_ble_eq_true rfl) dX3_bridges_20 ⟨Nat.zero_le _, Nat.zero_le _⟩ (fun H locs hP_ hD_ hS_ => ?_)
          refine jx_if_ne (tgt := 29) hx_ hb_ h_ dX3_bridges_23 (by decide) (fun h_ => ?_) (fun h_ => ?_)
          · refine lv_iinc (v := jI (v4 + 1)) (lv' := [(3, .int (jI (v4 + 1))), (0, .ref (a 0)), (1, .int (jI x1)), (2, .int (jI v3))]) hx_ hb_ dX3_bridges_29 hl_ (k := 3) rfl (jI_add _ _) (by decide) rfl (fun ls hl_ => ?_)
            refine lv_goto (tgt := 8) hx_ hb_ dX3_bridges_32 (by decide) ?_
            exact ih8 _ _ _ _ ls h_ hP_ hD_ hS_ (lv_sub hl_ [1, 2, 3, 0] rfl)
          · refine lv_iinc (v := jI (v3 + 1)) (lv' := [(2, .int (jI (v3 + 1))), (0, .ref (a 0)), (1, .int (jI x1)), (3, .int (jI v4))]) hx_ hb_ dX3_bridges_26 hl_ (k := 2) rfl (jI_add _ _) (by decide) rfl (fun ls hl_ => ?_)
            refine lv_iinc (v := jI (v4 + 1)) (lv' := [(3, .int (jI (v4 + 1))), (2, .int (jI (v3 + 1))), (0, .ref (a 0)), (1, .int (jI x1))]) hx_ hb_ dX3_bridges_29 hl_ (k := 3) rfl (jI_add _ _) (by decide) rfl (fun ls hl_ => ?_)
            refine lv_goto (tgt := 8) hx_ hb_ dX3_bridges_32 (by decide) ?_
            exact ih8 _ _ _ _ ls h_ hP_ hD_ hS_ (lv_sub hl_ [2, 3, 1, 0] rfl)
    exact hL8 fu _ _ _ _ ls h_ hP_ hD_ hS_ (lv_sub hl_ [2, 3, 1, 0] rfl)
  exact key_ _ (fun v9 H locs pc ls h9_ hdg_ hP_ hD_ hS_ => by cases h9_; exact jend_i hx_ hb_ hr_ hlocks_ hP_ hD_ hS_ hdg_)
def rm_X3_longestBridge : Room := { frames := 3, cells := 0, slots := 0, locals := 66 }
set_option maxRecDepth 100000 in
set_option maxHeartbeats 8000000 in
theorem c_X3_longestBridge (l : Launch) (D : va_G) (y : Nat → ClassId) (z : Nat → Nat) (a : Nat → Nat) (se : Int → Int) (tr : Int → Int) (fi : Int → Int) (la : Int → Int) (sh : Int → Int) (ac : Int → Int) (no : Int) (x1 : Int) (fu : Nat) (rr : Int) (h_ : f_X3_longestBridge fu se fi la sh no x1 = some rr) : jCI l D y z yX3_longestBridge wsX3_longestBridge rm_X3_longestBridge [.ref (a 0), .int (jI x1)] [(wRo y a se tr fi la sh ac no)] [(wRo y a se tr fi la sh ac no)] rr := by
  intro sz
  refine jmet (Qc := (fun A => va_Qi (fun v (_ : Unit) => v = jI rr) (jB D A [(wRo y a se tr fi la sh ac no)]) A)) (cc := cX3_longestBridge) (maxL := 5) (ret := (some .int)) (own := RX3) (by decide) rfl (Nat.le_of_ble_eq_true rfl) rfl (fun p e s m R args below meth c A ls hR_ hargs_ hx_ hb_ hr_ hlocks_ hml_ hown_ hts_ hname_ hsz_ hP_ hD_ hA_ hM_ hl_ => ?_)
  have key_ : ∀ Q : State → Prop, (∀ (v9 : Int) (H : Heap) (locs : List Loc) (pc : Nat) (ls : Array Slot), some v9 = some rr → decode cX3_longestBridge pc = .ok (.ireturn, 1) → va_P D vwCl [(wRo y a se tr fi la sh ac no)].flatten H → va_D A [(wRo y a se tr fi la sh ac no)].flatten → va_S A s.heap H locs → W p l e R s m args below meth c H locs 0 0 Q (F0 m pc ls [.int (jI v9)])) → W p l e R s m args below meth c s.heap [] 0 0 Q (F0 m 0 ls []) := by
    intro Q hE_
    have hS_ : va_S A s.heap s.heap [] := va_S.rf
    have hl_ : lv_has ls 5 [(0, .ref (a 0)), (1, .int (jI x1))] := hl_
    have hin_ : ∀ w ∈ u_ws RX3 TX3 7, w ∈ wsX3_longestBridge := by decide +kernel
    unfold f_X3_longestBridge at h_
    refine lv_iconst (v := jI 0) hx_ hb_ dX3_longestBridge_0 (by decide +kernel) ?_
    refine lv_istore_n (lv' := [(2, .int (jI 0)), (0, .ref (a 0)), (1, .int (jI x1))]) hx_ hb_ dX3_longestBridge_1 rfl hl_ (by decide) rfl (fun ls hl_ => ?_)
    refine lv_iconst (v := jI 0) hx_ hb_ dX3_longestBridge_2 (by decide +kernel) ?_
    refine lv_istore_n (lv' := [(3, .int (jI 0)), (2, .int (jI 0)), (0, .ref (a 0)), (1, .int (jI x1))]) hx_ hb_ dX3_longestBridge_3 rfl hl_ (by decide) rfl (fun ls hl_ => ?_)
    refine lv_aload_n hx_ hb_ dX3_longestBridge_4 rfl (lv_at hl_ 2 rfl) ?_
    refine lv_iload_n hx_ hb_ dX3_longestBridge_5 rfl (lv_at hl_ 3 rfl) ?_
    obtain ⟨v1, hv1, h_⟩ := jb_i h_
    refine jx_cvi (wr := []) (cw := [(wRo y a se tr fi la sh ac no)]) (cw1 := [(wRo y a se tr fi la sh ac no)]) (cs1 := [(wRo y a se tr fi la sh ac no)]) (As := [.int (jI x1)]) (rest := []) ⟨hx_, hb_, hml_, hown_, hts_⟩ hM_ hP_ hD_ hS_ hA_ (List.Perm.refl _) (List.Perm.refl _) (c_X3_firstOf l D y z a se tr fi la sh ac no x1 fu v1 hv1) 1 gX3_longestBridge_X3_firstOf rfl ⟨rfl, rfl⟩ (by decide +kernel) ⟨by rw [hR_]; exact Nat.le_of_ble_eq_true rfl, by rw [hR_]; exact Nat.le_of_ble_eq_true rfl⟩ 0 3 rfl rfl rfl rfl rfl hl_.1 (Nat.le_of_ble_eq_true rfl) dX3_longestBridge_6 ⟨Nat.zero_le _, Nat.zero_le _⟩ (fun H locs hP_ hD_ hS_ => ?_)
    refine lv_istore (lv' := [(4, .int (jI v1)), (3, .int (jI 0)), (2, .int (jI 0)), (0, .ref (a 0)), (1, .int (jI x1))]) hx_ hb_ dX3_longestBridge_9 hl_ (by decide) rfl (fun ls hl_ => ?_)
    have hX51 : ∀ (v2 : Int) (H : Heap) (locs : List Loc) (ls : Array Slot), f_X3_longestBridge_X51 fu v2 = some rr → va_P D vwCl [(wRo y a se tr fi la sh ac no)].flatten H → va_D A [(wRo y a se tr fi la sh ac no)].flatten → va_S A s.heap H locs → lv_has ls 5 [(2, .int (jI v2))] → W p l e R s m args below meth c H locs 0 0 Q (F0 m 51 ls []) := by
      intro v2 H locs ls h_ hP_ hD_ hS_ hl_
      unfold f_X3_longestBridge_X51 at h_
      refine lv_iload_n hx_ hb_ dX3_longestBridge_51 rfl (lv_at hl_ 0 rfl) ?_
      exact hE_ _ _ _ _ _ h_ dX3_longestBridge_52 hP_ hD_ hS_
    have hL11 : ∀ n11 : Nat, ∀ (v3 : Int) (v4 : Int) (v5 : Int) (H : Heap) (locs : List Loc) (ls : Array Slot), f_X3_longestBridge_L11 fu se fi la sh no x1 (f_X3_longestBridge_X51 fu) n11 v3 v4 v5 = some rr → va_P D vwCl [(wRo y a se tr fi la sh ac no)].flatten H → va_D A [(wRo y a se tr fi la sh ac no)].flatten → va_S A s.heap H locs → lv_has ls 5 [(0, .ref (a 0)), (1, .int (jI x1)), (2, .int (jI v3)), (3, .int (jI v4)), (4, .int (jI v5))] → W p l e R s m args below meth c H locs 0 0 Q (F0 m 11 ls []) := by
      intro n11
      induction n11 with
      | zero => intro _ _ _ H locs ls h_; have h_ : (none : Option (Int)) = some rr := h_; cases h_
      | succ n11 ih11 =>
        intro v3 v4 v5 H locs ls h_ hP_ hD_ hS_ hl_
        replace h_ : f_X3_longestBridge_L11_b fu se fi la sh no x1 (f_X3_longestBridge_X51 fu) (f_X3_longestBridge_L11 fu se fi la sh no x1 (f_X3_longestBridge_X51 fu) n11) v3 v4 v5 = some rr := h_
        unfold f_X3_longestBridge_L11_b at h_
        refine lv_iload hx_ hb_ dX3_longestBridge_11 (lv_at hl_ 4 rfl) ?_
        refine lv_aload_n hx_ hb_ dX3_longestBridge_13 rfl (lv_at hl_ 0 rfl) ?_
        refine lv_iload_n hx_ hb_ dX3_longestBridge_14 rfl (lv_at hl_ 1 rfl) ?_
        obtain ⟨v6, hv6, h_⟩ := jb_i h_
        refine jx_cvi (wr := []) (cw := [(wRo y a se tr fi la sh ac no)]) (cw1 := [(wRo y a se tr fi la sh ac no)]) (cs1 := [(wRo y a se tr fi la sh ac no)]) (As := [.int (jI x1)]) (rest := [.int (jI v5)]) ⟨hx_, hb_, hml_, hown_, hts_⟩ hM_ hP_ hD_ hS_ hA_ (List.Perm.refl _) (List.Perm.refl _) (c_X3_lastOf l D y z a se tr fi la sh ac no x1 fu v6 hv6) 1 gX3_longestBridge_X3_lastOf rfl ⟨rfl, rfl⟩ (by decide +kernel) ⟨by rw [hR_]; exact Nat.le_of_ble_eq_true rfl, by rw [hR_]; exact Nat.le_of_ble_eq_true rfl⟩ 0 3 rfl rfl rfl rfl rfl hl_.1 (Nat.le_of_ble_eq_true rfl) dX3_longestBridge_15 ⟨Nat.zero_le _, Nat.zero_le _⟩ (fun H locs hP_ hD_ hS_ => ?_)
        refine jx_icmp_gt (tgt := 51) hx_ hb_ h_ dX3_longestBridge_18 (by decide) (fun h_ => ?_) (fun h_ => ?_)
        · exact hX51 _ _ _ ls h_ hP_ hD_ hS_ (lv_sub hl_ [2] rfl)
        · refine lv_aload_n hx_ hb_ dX3_longestBridge_21 rfl (lv_at hl_ 0 rfl) ?_
          refine lv_iload_n hx_ hb_ dX3_longestBridge_22 rfl (lv_at hl_ 1 rfl) ?_
          refine lv_iload hx_ hb_ dX3_longestBridge_23 (lv_at hl_ 4 rfl) ?_
          obtain ⟨v7, hv7, h_⟩ := jb_i h_
          refine jx_cvi (wr := []) (cw := [(wRo y a se tr fi la sh ac no)]) (cw1 := [(wRo y a se tr fi la sh ac no)]) (cs1 := [(wRo y a se tr fi la sh ac no)]) (As := [.int (jI x1), .int (jI v5)]) (rest := []) ⟨hx_, hb_, hml_, hown_, hts_⟩ hM_ hP_ hD_ hS_ hA_ (List.Perm.refl _) (List.Perm.refl _) (c_X3_isHole l D y z a se tr fi la sh ac no x1 v5 fu v7 hv7) 2 gX3_longestBridge_X3_isHole rfl ⟨rfl, rfl⟩ (by decide +kernel) ⟨by rw [hR_]; exact Nat.le_of_ble_eq_true rfl, by rw [hR_]; exact Nat.le_of_ble_eq_true rfl⟩ 0 3 rfl rfl rfl rfl rfl hl_.1 (Nat.le_of_ble_eq_true rfl) dX3_longestBridge_25 ⟨Nat.zero_le _, Nat.zero_le _⟩ (fun H locs hP_ hD_ hS_ => ?_)
          have hJ38 : ∀ (v8 : Int) (H : Heap) (locs : List Loc) (ls : Array Slot), f_X3_longestBridge_J38 fu v3 v5 (f_X3_longestBridge_L11 fu se fi la sh no x1 (f_X3_longestBridge_X51 fu) n11) v8 = some rr → va_P D vwCl [(wRo y a se tr fi la sh ac no)].flatten H → va_D A [(wRo y a se tr fi la sh ac no)].flatten → va_S A s.heap H locs → lv_has ls 5 [(0, .ref (a 0)), (1, .int (jI x1)), (2, .int (jI v3)), (4, .int (jI v5))] → W p l e R s m args below meth c H locs 0 0 Q (F0 m 38 ls [.int (jI v8)]) := by
            intro v8 H locs ls h_ hP_ hD_ hS_ hl_
            unfold f_X3_longestBridge_J38 at h_
            refine lv_istore_n (lv' := [(3, .int (jI v8)), (0, .ref (a 0)), (1, .int (jI x1)), (2, .int (jI v3)), (4, .int (jI v5))]) hx_ hb_ dX3_longestBridge_38 rfl hl_ (by decide) rfl (fun ls hl_ => ?_)
            refine lv_iload_n hx_ hb_ dX3_longestBridge_39 rfl (lv_at hl_ 3 rfl) ?_
            refine lv_iload_n hx_ hb_ dX3_longestBridge_40 rfl (lv_at hl_ 0 rfl) ?_
            refine jx_mmax hx_ hb_ (hml_.trans hl_.1.symm) hown_ (hts_ (.methodLink RX3 78 Lib.Math.max.name) (by decide +kernel)) (hts_ (.static Lib.Math.max.name) (by decide +kernel)) (hts_ (.initialized "java/lang/Math") (by decide +kernel)) (hts_ (.code Lib.Math.max.name Lib.Math.max.code 2 (some .int)) (by decide +kernel)) (by rw [hR_]; exact Nat.le_of_ble_eq_true rfl) (by rw [hR_]; exact Nat.le_of_ble_eq_true rfl) (Nat.zero_le _) (Nat.zero_le _) h_ dX3_longestBridge_41 (fun h_ => ?_)
            refine lv_istore_n (lv' := [(2, .int (jI (jmax v3 v8))), (3, .int (jI v8)), (0, .ref (a 0)), (1, .int (jI x1)), (4, .int (jI v5))]) hx_ hb_ dX3_longestBridge_44 rfl hl_ (by decide) rfl (fun ls hl_ => ?_)
            refine lv_iinc (v := jI (v5 + 1)) (lv' := [(4, .int (jI (v5 + 1))), (2, .int (jI (jmax v3 v8))), (3, .int (jI v8)), (0, .ref (a 0)), (1, .int (jI x1))]) hx_ hb_ dX3_longestBridge_45 hl_ (k := 4) rfl (jI_add _ _) (by decide) rfl (fun ls hl_ => ?_)
            refine lv_goto (tgt := 11) hx_ hb_ dX3_longestBridge_48 (by decide) ?_
            exact ih11 _ _ _ _ _ ls h_ hP_ hD_ hS_ (lv_sub hl_ [3, 4, 1, 2, 0] rfl)
          refine jx_if_eq (tgt := 35) hx_ hb_ h_ dX3_longestBridge_28 (by decide) (fun h_ => ?_) (fun h_ => ?_)
          · refine lv_iload_n hx_ hb_ dX3_longestBridge_35 rfl (lv_at hl_ 3 rfl) ?_
            refine lv_iconst (v := jI 1) hx_ hb_ dX3_longestBridge_36 (by decide +kernel) ?_
            refine jx_iadd hx_ hb_ dX3_longestBridge_37 ?_
            exact hJ38 _ _ _ ls h_ hP_ hD_ hS_ (lv_sub hl_ [0, 1, 2, 4] rfl)
          · refine lv_iconst (v := jI 0) hx_ hb_ dX3_longestBridge_31 (by decide +kernel) ?_
            refine lv_goto (tgt := 38) hx_ hb_ dX3_longestBridge_32 (by decide) ?_
            exact hJ38 _ _ _ ls h_ hP_ hD_ hS_ (lv_sub hl_ [0, 1, 2, 4] rfl)
    exact hL11 fu _ _ _ _ _ ls h_ hP_ hD_ hS_ (lv_sub hl_ [3, 4, 2, 1, 0] rfl)
  exact key_ _ (fun v9 H locs pc ls h9_ hdg_ hP_ hD_ hS_ => by cases h9_; exact jend_i hx_ hb_ hr_ hlocks_ hP_ hD_ hS_ hdg_)
