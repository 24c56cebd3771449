def rm_X5_restore : Room := { frames := 2, cells := 0, slots := 0, locals := 45 }
set_option maxRecDepth 100000 in
set_option maxHeartbeats 8000000 in
theorem c_X5_restore (l : Launch) (D : va_G) (y : Nat → ClassId) (z : Nat → Nat) (a : Nat → Nat) (rc : Int) (is_ : Int → Int) (pd : Int → Int) (pn : Int) (ho : Int → Int) (eh : Int → Int) (mv : Int → Int) (at_ : Int) (tk : Int) (fs : Int) (lt : Int) (ea : Int) (stf : Int → Int) (kpf : Int → Int) (hsf : Int → Int) (slf : Int → Int) (x1 : Int) (fu : Nat) (rr : Int) (q_rc : Int) (q_stf : Int → Int) (q_hsf : Int → Int) (h_ : f_X5_restore fu rc is_ stf hsf slf x1 = some (rr, q_rc, q_stf, q_hsf)) : jCI l D y z yX5_restore wsX5_restore rm_X5_restore [.ref (a 0), .int (jI x1)] [(wMo y a rc is_ pd pn ho eh mv at_ tk fs lt ea), (wAr y (a 6) 205 stf), (wAr y (a 7) 205 kpf), (wAr y (a 8) 1230 hsf), (wAr y (a 9) 410 slf)] [(wMo y a q_rc is_ pd pn ho eh mv at_ tk fs lt ea), (wAr y (a 6) 205 q_stf), (wAr y (a 7) 205 kpf), (wAr y (a 8) 1230 q_hsf), (wAr y (a 9) 410 slf)] rr := by
  intro sz
  refine jmet (Qc := (fun A => va_Qi (fun v (_ : Unit) => v = jI rr) (jB D A [(wMo y a q_rc is_ pd pn ho eh mv at_ tk fs lt ea), (wAr y (a 6) 205 q_stf), (wAr y (a 7) 205 kpf), (wAr y (a 8) 1230 q_hsf), (wAr y (a 9) 410 slf)]) A)) (cc := cX5_restore) (maxL := 2) (ret := (some .int)) (own := RX5) (by decide) rfl (Nat.le_of_ble_eq_true rfl) rfl (fun p e s m R args below meth c A ls hR_ hargs_ hx_ hb_ hr_ hlocks_ hml_ hown_ hts_ hname_ hsz_ hP_ hD_ hA_ hM_ hl_ => ?_)
  have key_ : ∀ Q : State → Prop, (∀ (v9 : Int) (rc9 : Int) (stf9 : Int → Int) (hsf9 : Int → Int) (H : Heap) (locs : List Loc) (pc : Nat) (ls : Array Slot), some (v9, rc9, stf9, hsf9) = some (rr, q_rc, q_stf, q_hsf) → decode cX5_restore pc = .ok (.ireturn, 1) → va_P D vwCl [(wMo y a rc9 is_ pd pn ho eh mv at_ tk fs lt ea), (wAr y (a 6) 205 stf9), (wAr y (a 7) 205 kpf), (wAr y (a 8) 1230 hsf9), (wAr y (a 9) 410 slf)].flatten H → va_D A [(wMo y a rc9 is_ pd pn ho eh mv at_ tk fs lt ea), (wAr y (a 6) 205 stf9), (wAr y (a 7) 205 kpf), (wAr y (a 8) 1230 hsf9), (wAr y (a 9) 410 slf)].flatten → va_S A s.heap H locs → W p l e R s m args below meth c H locs 0 0 Q (F0 m pc ls [.int (jI v9)])) → W p l e R s m args below meth c s.heap [] 0 0 Q (F0 m 0 ls []) := by
    intro Q hE_
    have hS_ : va_S A s.heap s.heap [] := va_S.rf
    have hl_ : lv_has ls 2 [(0, .ref (a 0)), (1, .int (jI x1))] := hl_
    have hin_ : ∀ w ∈ u_ws RX5 TX5 16, w ∈ wsX5_restore := by decide +kernel
    unfold f_X5_restore at h_
    refine lv_iload_n hx_ hb_ dX5_restore_0 rfl (lv_at hl_ 1 rfl) ?_
    refine lv_iconst (v := jI 0) hx_ hb_ dX5_restore_1 (by decide +kernel) ?_
    refine lv_iconst (v := jI 1) hx_ hb_ dX5_restore_2 (by decide +kernel) ?_
    obtain ⟨v1, hv1, h_⟩ := jb_i h_
    refine jx_csi (b := 0) (C := "") (wr := [(wMo y a rc is_ pd pn ho eh mv at_ tk fs lt ea), (wAr y (a 6) 205 stf), (wAr y (a 7) 205 kpf), (wAr y (a 8) 1230 hsf), (wAr y (a 9) 410 slf)]) (cw := []) (cw1 := []) (cs1 := [(wMo y a rc is_ pd pn ho eh mv at_ tk fs lt ea), (wAr y (a 6) 205 stf), (wAr y (a 7) 205 kpf), (wAr y (a 8) 1230 hsf), (wAr y (a 9) 410 slf)]) (As := [.int (jI x1), .int (jI 0), .int (jI 1)]) (rest := []) ⟨hx_, hb_, hml_, hown_, hts_⟩ hM_ hP_ hD_ hS_ hA_ (List.Perm.of_eq (List.append_nil _).symm) (List.Perm.of_eq (List.append_nil _)) (c_X5_within l D y z x1 0 1 fu v1 hv1) 3 (va_cwS 3 hts_ gX5_restore_X5_within rfl rfl rfl (by decide +kernel) ⟨by rw [hR_]; exact Nat.le_of_ble_eq_true rfl, by rw [hR_]; exact Nat.le_of_ble_eq_true rfl⟩) rfl ⟨rfl, rfl⟩ ⟨by rw [hR_]; exact Nat.le_of_ble_eq_true rfl, by rw [hR_]; exact Nat.le_of_ble_eq_true rfl⟩ rfl rfl hl_.1 (Nat.le_of_ble_eq_true rfl) dX5_restore_3 ⟨Nat.zero_le _, Nat.zero_le _⟩ (fun H locs hP_ hD_ hS_ => ?_)
    refine jx_if_ne (tgt := 12) hx_ hb_ h_ dX5_restore_6 (by decide) (fun h_ => ?_) (fun h_ => ?_)
    · refine lv_aload_n hx_ hb_ dX5_restore_12 rfl (lv_at hl_ 0 rfl) ?_
      refine va_get (D := D) (ci := 5) (v := .ref (a 1)) (C := RX5) (T := TX5) (N := 16) hx_ hb_ hts_ hin_ hown_ hM_.1 hP_ 0 rfl rfl 5 (by decide) (hts_ (.fieldLink RX5 22 "MusicHolesModel" "isSaved" "[I") (by decide +kernel)) (fun _ h9_ => h9_) rfl dX5_restore_13 ?_
      refine lv_iload_n hx_ hb_ dX5_restore_16 rfl (lv_at hl_ 1 rfl) ?_
      refine jx_iald hx_ hb_ hM_ hP_ 1 0 rfl rfl rfl (Nat.le_of_ble_eq_true rfl) h_ dX5_restore_17 (fun h_ => ?_)
      refine jx_if_ne (tgt := 24) hx_ hb_ h_ dX5_restore_18 (by decide) (fun h_ => ?_) (fun h_ => ?_)
      · refine lv_aload_n hx_ hb_ dX5_restore_24 rfl (lv_at hl_ 0 rfl) ?_
        obtain ⟨rc_m2, hsf_m3, hrc_m2, h_⟩ := jb2_i h_
        refine jx_cvv (rv := 0) (wr := []) (cw := [(wMo y a rc is_ pd pn ho eh mv at_ tk fs lt ea), (wAr y (a 6) 205 stf), (wAr y (a 7) 205 kpf), (wAr y (a 8) 1230 hsf), (wAr y (a 9) 410 slf)]) (cw1 := [(wMo y a rc_m2 is_ pd pn ho eh mv at_ tk fs lt ea), (wAr y (a 6) 205 stf), (wAr y (a 7) 205 kpf), (wAr y (a 8) 1230 hsf_m3), (wAr y (a 9) 410 slf)]) (cs1 := [(wMo y a rc_m2 is_ pd pn ho eh mv at_ tk fs lt ea), (wAr y (a 6) 205 stf), (wAr y (a 7) 205 kpf), (wAr y (a 8) 1230 hsf_m3), (wAr y (a 9) 410 slf)]) (As := []) (rest := []) ⟨hx_, hb_, hml_, hown_, hts_⟩ hM_ hP_ hD_ hS_ hA_ (List.Perm.refl _) (List.Perm.refl _) (c_X5_record l D y z a rc is_ pd pn ho eh mv at_ tk fs lt ea stf kpf hsf slf fu rc_m2 hsf_m3 hrc_m2) 0 gX5_restore_X5_record rfl ⟨rfl, rfl⟩ (by decide +kernel) ⟨by rw [hR_]; exact Nat.le_of_ble_eq_true rfl, by rw [hR_]; exact Nat.le_of_ble_eq_true rfl⟩ 0 5 rfl rfl rfl rfl rfl hl_.1 (Nat.le_of_ble_eq_true rfl) dX5_restore_25 ⟨Nat.zero_le _, Nat.zero_le _⟩ (fun H locs hP_ hD_ hS_ => ?_)
        refine lv_aload_n hx_ hb_ dX5_restore_28 rfl (lv_at hl_ 0 rfl) ?_
        refine va_get (D := D) (ci := 5) (v := .ref (a 9)) (C := RX5) (T := TX5) (N := 16) hx_ hb_ hts_ hin_ hown_ hM_.1 hP_ 0 rfl rfl 4 (by decide) (hts_ (.fieldLink RX5 19 "MusicHolesModel" "slots" "[I") (by decide +kernel)) (fun _ h9_ => h9_) rfl dX5_restore_29 ?_
        refine lv_sipush (v := jI 205) hx_ hb_ dX5_restore_32 (by decide +kernel) ?_
        refine lv_iload_n hx_ hb_ dX5_restore_35 rfl (lv_at hl_ 1 rfl) ?_
        refine jx_imul hx_ hb_ dX5_restore_36 ?_
        refine lv_aload_n hx_ hb_ dX5_restore_37 rfl (lv_at hl_ 0 rfl) ?_
        refine va_get (D := D) (ci := 5) (v := .ref (a 6)) (C := RX5) (T := TX5) (N := 16) hx_ hb_ hts_ hin_ hown_ hM_.1 hP_ 0 rfl rfl 0 (by decide) (hts_ (.fieldLink RX5 7 "MusicHolesModel" "state" "[I") (by decide +kernel)) (fun _ h9_ => h9_) rfl dX5_restore_38 ?_
        refine lv_iconst (v := jI 0) hx_ hb_ dX5_restore_41 (by decide +kernel) ?_
        obtain ⟨q2f_m4, hq2f_m4, h_⟩ := jb_i h_
        refine jx_csv (b := 0) (C := "") (rv := 0) (wr := [(wMo y a rc_m2 is_ pd pn ho eh mv at_ tk fs lt ea), (wAr y (a 7) 205 kpf), (wAr y (a 8) 1230 hsf_m3)]) (cw := [(wAr y (a 9) 410 slf), (wAr y (a 6) 205 stf)]) (cw1 := [(wAr y (a 9) 410 slf), (wAr y (a 6) 205 q2f_m4)]) (cs1 := [(wMo y a rc_m2 is_ pd pn ho eh mv at_ tk fs lt ea), (wAr y (a 6) 205 q2f_m4), (wAr y (a 7) 205 kpf), (wAr y (a 8) 1230 hsf_m3), (wAr y (a 9) 410 slf)]) (As := [.ref (a 9), .int (jI (205 * x1)), .ref (a 6), .int (jI 0)]) (rest := []) ⟨hx_, hb_, hml_, hown_, hts_⟩ hM_ hP_ hD_ hS_ hA_ (jperm 5 [0, 2, 3, 4, 1] rfl (by decide) rfl) (jperm 5 [0, 4, 1, 2, 3] rfl (by decide) rfl) (c_X5_moves l D y z (a 9) (a 6) 410 (Nat.le_of_ble_eq_true rfl) 205 (Nat.le_of_ble_eq_true rfl) slf stf (205 * x1) 0 fu q2f_m4 hq2f_m4) 4 (va_cwS 4 hts_ gX5_restore_X5_moves rfl rfl rfl (by decide +kernel) ⟨by rw [hR_]; exact Nat.le_of_ble_eq_true rfl, by rw [hR_]; exact Nat.le_of_ble_eq_true rfl⟩) rfl ⟨rfl, rfl⟩ ⟨by rw [hR_]; exact Nat.le_of_ble_eq_true rfl, by rw [hR_]; exact Nat.le_of_ble_eq_true rfl⟩ rfl rfl hl_.1 (Nat.le_of_ble_eq_true rfl) dX5_restore_42 ⟨Nat.zero_le _, Nat.zero_le _⟩ (fun H locs hP_ hD_ hS_ => ?_)
        refine lv_aload_n hx_ hb_ dX5_restore_45 rfl (lv_at hl_ 0 rfl) ?_
        refine va_get (D := D) (ci := 5) (v := .ref (a 6)) (C := RX5) (T := TX5) (N := 16) hx_ hb_ hts_ hin_ hown_ hM_.1 hP_ 0 rfl rfl 0 (by decide) (hts_ (.fieldLink RX5 7 "MusicHolesModel" "state" "[I") (by decide +kernel)) (fun _ h9_ => h9_) rfl dX5_restore_46 ?_
        refine lv_iconst (v := jI 4) hx_ hb_ dX5_restore_49 (by decide +kernel) ?_
        refine jx_iald hx_ hb_ hM_ hP_ 6 0 rfl rfl rfl (Nat.le_of_ble_eq_true rfl) h_ dX5_restore_50 (fun h_ => ?_)
        exact hE_ _ _ _ _ _ _ _ _ h_ dX5_restore_51 hP_ hD_ hS_
      · refine lv_bipush (v := jI (-5)) hx_ hb_ dX5_restore_21 (by decide +kernel) ?_
        exact hE_ _ _ _ _ _ _ _ _ h_ dX5_restore_23 hP_ hD_ hS_
    · refine lv_bipush (v := jI (-2)) hx_ hb_ dX5_restore_9 (by decide +kernel) ?_
      exact hE_ _ _ _ _ _ _ _ _ h_ dX5_restore_11 hP_ hD_ hS_
  exact key_ _ (fun v9 rc9 stf9 hsf9 H locs pc ls h9_ hdg_ hP_ hD_ hS_ => by cases h9_; exact jend_i hx_ hb_ hr_ hlocks_ hP_ hD_ hS_ hdg_)
