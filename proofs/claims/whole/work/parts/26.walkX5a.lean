def rm_X5_moves : Room := { frames := 0, cells := 0, slots := 0, locals := 0 }
set_option maxRecDepth 100000 in
set_option maxHeartbeats 8000000 in
theorem c_X5_moves (l : Launch) (D : va_G) (y : Nat → ClassId) (z : Nat → Nat) (a0 : Nat) (a2 : Nat) (n0 : Nat) (hn0 : n0 ≤ 2147483648) (n2 : Nat) (hn2 : n2 ≤ 2147483648) (q0f : Int → Int) (q2f : Int → Int) (x1 : Int) (x3 : Int) (fu : Nat) (q_q2f : Int → Int) (h_ : f_X5_moves fu n0 n2 q0f q2f x1 x3 = some q_q2f) : jCV l D y z yX5_moves wsX5_moves rm_X5_moves [.ref a0, .int (jI x1), .ref a2, .int (jI x3)] [(wAr y a0 n0 q0f), (wAr y a2 n2 q2f)] [(wAr y a0 n0 q0f), (wAr y a2 n2 q_q2f)] := by
  intro sz
  refine jmet (Qc := (fun A => va_Qv (fun (_ : Unit) => True) (jB D A [(wAr y a0 n0 q0f), (wAr y a2 n2 q_q2f)]) A)) (cc := cX5_moves) (maxL := 5) (ret := none) (own := RX5) (by decide) rfl (Nat.le_of_ble_eq_true rfl) rfl (fun p e s m R args below meth c A ls hR_ hargs_ hx_ hb_ hr_ hlocks_ hml_ hown_ hts_ hname_ hsz_ hP_ hD_ hA_ hM_ hl_ => ?_)
  have key_ : ∀ Q : State → Prop, (∀ (q2f9 : Int → Int) (H : Heap) (locs : List Loc) (pc : Nat) (ls : Array Slot), some q2f9 = some q_q2f → decode cX5_moves pc = .ok (.return_, 1) → va_P D vwCl [(wAr y a0 n0 q0f), (wAr y a2 n2 q2f9)].flatten H → va_D A [(wAr y a0 n0 q0f), (wAr y a2 n2 q2f9)].flatten → va_S A s.heap H locs → W p l e R s m args below meth c H locs 0 0 Q (F0 m pc ls [])) → W p l e R s m args below meth c s.heap [] 0 0 Q (F0 m 0 ls []) := by
    intro Q hE_
    have hS_ : va_S A s.heap s.heap [] := va_S.rf
    have hl_ : lv_has ls 5 [(0, .ref a0), (1, .int (jI x1)), (2, .ref a2), (3, .int (jI x3))] := hl_
    unfold f_X5_moves at h_
    refine lv_iconst (v := jI 0) hx_ hb_ dX5_moves_0 (by decide +kernel) ?_
    refine lv_istore (lv' := [(4, .int (jI 0)), (0, .ref a0), (1, .int (jI x1)), (2, .ref a2), (3, .int (jI x3))]) hx_ hb_ dX5_moves_1 hl_ (by decide) rfl (fun ls hl_ => ?_)
    have hX29 : ∀ (q2f_m1 : Int → Int) (H : Heap) (locs : List Loc) (ls : Array Slot), f_X5_moves_X29 fu q2f_m1 = some q_q2f → va_P D vwCl [(wAr y a0 n0 q0f), (wAr y a2 n2 q2f_m1)].flatten H → va_D A [(wAr y a0 n0 q0f), (wAr y a2 n2 q2f_m1)].flatten → va_S A s.heap H locs → lv_has ls 5 [] → W p l e R s m args below meth c H locs 0 0 Q (F0 m 29 ls []) := by
      intro q2f_m1 H locs ls h_ hP_ hD_ hS_ hl_
      unfold f_X5_moves_X29 at h_
      exact hE_ _ _ _ _ _ h_ dX5_moves_29 hP_ hD_ hS_
    have hL3 : ∀ n3 : Nat, ∀ (q2f_m2 : Int → Int) (v3 : Int) (H : Heap) (locs : List Loc) (ls : Array Slot), f_X5_moves_L3 fu n0 n2 q0f x1 x3 (f_X5_moves_X29 fu) n3 q2f_m2 v3 = some q_q2f → va_P D vwCl [(wAr y a0 n0 q0f), (wAr y a2 n2 q2f_m2)].flatten H → va_D A [(wAr y a0 n0 q0f), (wAr y a2 n2 q2f_m2)].flatten → va_S A s.heap H locs → lv_has ls 5 [(0, .ref a0), (1, .int (jI x1)), (2, .ref a2), (3, .int (jI x3)), (4, .int (jI v3))] → W p l e R s m args below meth c H locs 0 0 Q (F0 m 3 ls []) := by
      intro n3
      induction n3 with
      | zero => intro _ _ H locs ls h_; have h_ : (none : Option ((Int → Int))) = some q_q2f := h_; cases h_
      | succ n3 ih3 =>
        intro q2f_m2 v3 H locs ls h_ hP_ hD_ hS_ hl_
        replace h_ : f_X5_moves_L3_b fu n0 n2 q0f x1 x3 (f_X5_moves_X29 fu) (f_X5_moves_L3 fu n0 n2 q0f x1 x3 (f_X5_moves_X29 fu) n3) q2f_m2 v3 = some q_q2f := h_
        unfold f_X5_moves_L3_b at h_
        refine lv_iload hx_ hb_ dX5_moves_3 (lv_at hl_ 4 rfl) ?_
        refine lv_sipush (v := jI 205) hx_ hb_ dX5_moves_5 (by decide +kernel) ?_
        refine jx_icmp_ge (tgt := 29) hx_ hb_ h_ dX5_moves_8 (by decide) (fun h_ => ?_) (fun h_ => ?_)
        · exact hX29 _ _ _ ls h_ hP_ hD_ hS_ (lv_sub hl_ [] rfl)
        · refine lv_aload_n hx_ hb_ dX5_moves_11 rfl (lv_at hl_ 2 rfl) ?_
          refine lv_iload_n hx_ hb_ dX5_moves_12 rfl (lv_at hl_ 3 rfl) ?_
          refine lv_iload hx_ hb_ dX5_moves_13 (lv_at hl_ 4 rfl) ?_
          refine jx_iadd hx_ hb_ dX5_moves_15 ?_
          refine lv_aload_n hx_ hb_ dX5_moves_16 rfl (lv_at hl_ 0 rfl) ?_
          refine lv_iload_n hx_ hb_ dX5_moves_17 rfl (lv_at hl_ 1 rfl) ?_
          refine lv_iload hx_ hb_ dX5_moves_18 (lv_at hl_ 4 rfl) ?_
          refine jx_iadd hx_ hb_ dX5_moves_20 ?_
          refine jx_iald hx_ hb_ hM_ hP_ 0 0 rfl rfl rfl hn0 h_ dX5_moves_21 (fun h_ => ?_)
          refine jx_iast hx_ hb_ hM_ hP_ hD_ hS_ 1 0 rfl rfl rfl hn2 h_ dX5_moves_22 (fun H locs h_ hP_ hD_ hS_ => ?_)
          have hP_ : va_P D vwCl [(wAr y a0 n0 q0f), (wAr y a2 n2 (uI q2f_m2 (x3 + v3) (q0f (x1 + v3))))].flatten H := hP_
          have hD_ : va_D A [(wAr y a0 n0 q0f), (wAr y a2 n2 (uI q2f_m2 (x3 + v3) (q0f (x1 + v3))))].flatten := hD_
          refine lv_iinc (v := jI (v3 + 1)) (lv' := [(4, .int (jI (v3 + 1))), (0, .ref a0), (1, .int (jI x1)), (2, .ref a2), (3, .int (jI x3))]) hx_ hb_ dX5_moves_23 hl_ (k := 4) rfl (jI_add _ _) (by decide) rfl (fun ls hl_ => ?_)
          refine lv_goto (tgt := 3) hx_ hb_ dX5_moves_26 (by decide) ?_
          exact ih3 _ _ _ _ ls h_ hP_ hD_ hS_ (lv_sub hl_ [1, 2, 3, 4, 0] rfl)
    exact hL3 fu _ _ _ _ ls h_ hP_ hD_ hS_ (lv_sub hl_ [1, 2, 3, 4, 0] rfl)
  exact key_ _ (fun q2f9 H locs pc ls h9_ hdg_ hP_ hD_ hS_ => by cases h9_; exact jend_v hx_ hb_ hr_ hlocks_ hP_ hD_ hS_ hdg_)
def rm_X5_within : Room := { frames := 0, cells := 0, slots := 0, locals := 0 }
set_option maxRecDepth 100000 in
set_option maxHeartbeats 8000000 in
theorem c_X5_within (l : Launch) (D : va_G) (y : Nat → ClassId) (z : Nat → Nat)   (x0 : Int) (x1 : Int) (x2 : Int) (fu : Nat) (rr : Int) (h_ : f_X5_within fu x0 x1 x2 = some rr) : jCI l D y z yX5_within wsX5_within rm_X5_within [.int (jI x0), .int (jI x1), .int (jI x2)] [] [] rr := by
  intro sz
  refine jmet (Qc := (fun A => va_Qi (fun v (_ : Unit) => v = jI rr) (jB D A []) A)) (cc := cX5_within) (maxL := 3) (ret := (some .boolean)) (own := RX5) (by decide) rfl (Nat.le_of_ble_eq_true rfl) rfl (fun p e s m R args below meth c A ls hR_ hargs_ hx_ hb_ hr_ hlocks_ hml_ hown_ hts_ hname_ hsz_ hP_ hD_ hA_ hM_ hl_ => ?_)
  have key_ : ∀ Q : State → Prop, (∀ (v9 : Int) (H : Heap) (locs : List Loc) (pc : Nat) (ls : Array Slot), some v9 = some rr → (v9 = 0 ∨ v9 = 1) → decode cX5_within pc = .ok (.ireturn, 1) → va_P D vwCl [].flatten H → va_D A [].flatten → va_S A s.heap H locs → W p l e R s m args below meth c H locs 0 0 Q (F0 m pc ls [.int (jI v9)])) → W p l e R s m args below meth c s.heap [] 0 0 Q (F0 m 0 ls []) := by
    intro Q hE_
    have hS_ : va_S A s.heap s.heap [] := va_S.rf
    have hl_ : lv_has ls 3 [(0, .int (jI x0)), (1, .int (jI x1)), (2, .int (jI x2))] := hl_
    unfold f_X5_within at h_
    refine lv_iload_n hx_ hb_ dX5_within_0 rfl (lv_at hl_ 0 rfl) ?_
    refine lv_iload_n hx_ hb_ dX5_within_1 rfl (lv_at hl_ 1 rfl) ?_
    refine jx_icmp_lt (tgt := 14) hx_ hb_ h_ dX5_within_2 (by decide) (fun h_ => ?_) (fun h_ => ?_)
    · refine lv_iconst (v := jI 0) hx_ hb_ dX5_within_14 (by decide +kernel) ?_
      obtain ⟨hz_, h_⟩ := jbo_i h_
      exact hE_ _ _ _ _ _ h_ hz_ dX5_within_15 hP_ hD_ hS_
    · refine lv_iload_n hx_ hb_ dX5_within_5 rfl (lv_at hl_ 0 rfl) ?_
      refine lv_iload_n hx_ hb_ dX5_within_6 rfl (lv_at hl_ 2 rfl) ?_
      refine jx_icmp_gt (tgt := 14) hx_ hb_ h_ dX5_within_7 (by decide) (fun h_ => ?_) (fun h_ => ?_)
      · refine lv_iconst (v := jI 0) hx_ hb_ dX5_within_14 (by decide +kernel) ?_
        obtain ⟨hz_, h_⟩ := jbo_i h_
        exact hE_ _ _ _ _ _ h_ hz_ dX5_within_15 hP_ hD_ hS_
      · refine lv_iconst (v := jI 1) hx_ hb_ dX5_within_10 (by decide +kernel) ?_
        refine lv_goto (tgt := 15) hx_ hb_ dX5_within_11 (by decide) ?_
        obtain ⟨hz_, h_⟩ := jbo_i h_
        exact hE_ _ _ _ _ _ h_ hz_ dX5_within_15 hP_ hD_ hS_
  exact key_ _ (fun v9 H locs pc ls h9_ hz_ hdg_ hP_ hD_ hS_ => by cases h9_; exact jend_z hx_ hb_ hr_ hlocks_ hz_ hP_ hD_ hS_ hdg_)
def rm_X5_record : Room := { frames := 1, cells := 0, slots := 0, locals := 24 }
set_option maxRecDepth 100000 in
set_option maxHeartbeats 8000000 in
theorem c_X5_record (l : Launch) (D : va_G) (y : Nat → ClassId) (z : Nat → Nat) (a : Nat → Nat) (rc : Int) (is_ : Int → Int) (pd : Int → Int) (pn : Int) (ho : Int → Int) (eh : Int → Int) (mv : Int → Int) (at_ : Int) (tk : Int) (fs : Int) (lt : Int) (ea : Int) (stf : Int → Int) (kpf : Int → Int) (hsf : Int → Int) (slf : Int → Int)  (fu : Nat) (q_rc : Int) (q_hsf : Int → Int) (h_ : f_X5_record fu rc stf hsf = some (q_rc, q_hsf)) : jCV l D y z yX5_record wsX5_record rm_X5_record [.ref (a 0)] [(wMo y a rc is_ pd pn ho eh mv at_ tk fs lt ea), (wAr y (a 6) 205 stf), (wAr y (a 7) 205 kpf), (wAr y (a 8) 1230 hsf), (wAr y (a 9) 410 slf)] [(wMo y a q_rc is_ pd pn ho eh mv at_ tk fs lt ea), (wAr y (a 6) 205 stf), (wAr y (a 7) 205 kpf), (wAr y (a 8) 1230 q_hsf), (wAr y (a 9) 410 slf)] := by
  intro sz
  refine jmet (Qc := (fun A => va_Qv (fun (_ : Unit) => True) (jB D A [(wMo y a q_rc is_ pd pn ho eh mv at_ tk fs lt ea), (wAr y (a 6) 205 stf), (wAr y (a 7) 205 kpf), (wAr y (a 8) 1230 q_hsf), (wAr y (a 9) 410 slf)]) A)) (cc := cX5_record) (maxL := 2) (ret := none) (own := RX5) (by decide) rfl (Nat.le_of_ble_eq_true rfl) rfl (fun p e s m R args below meth c A ls hR_ hargs_ hx_ hb_ hr_ hlocks_ hml_ hown_ hts_ hname_ hsz_ hP_ hD_ hA_ hM_ hl_ => ?_)
  have key_ : ∀ Q : State → Prop, (∀ (rc9 : Int) (hsf9 : Int → Int) (H : Heap) (locs : List Loc) (pc : Nat) (ls : Array Slot), some (rc9, hsf9) = some (q_rc, q_hsf) → decode cX5_record pc = .ok (.return_, 1) → va_P D vwCl [(wMo y a rc9 is_ pd pn ho eh mv at_ tk fs lt ea), (wAr y (a 6) 205 stf), (wAr y (a 7) 205 kpf), (wAr y (a 8) 1230 hsf9), (wAr y (a 9) 410 slf)].flatten H → va_D A [(wMo y a rc9 is_ pd pn ho eh mv at_ tk fs lt ea), (wAr y (a 6) 205 stf), (wAr y (a 7) 205 kpf), (wAr y (a 8) 1230 hsf9), (wAr y (a 9) 410 slf)].flatten → va_S A s.heap H locs → W p l e R s m args below meth c H locs 0 0 Q (F0 m pc ls [])) → W p l e R s m args below meth c s.heap [] 0 0 Q (F0 m 0 ls []) := by
    intro Q hE_
    have hS_ : va_S A s.heap s.heap [] := va_S.rf
    have hl_ : lv_has ls 2 [(0, .ref (a 0))] := hl_
    have hin_ : ∀ w ∈ u_ws RX5 TX5 16, w ∈ wsX5_record := by decide +kernel
    unfold f_X5_record at h_
    refine lv_aload_n hx_ hb_ dX5_record_0 rfl (lv_at hl_ 0 rfl) ?_
    refine va_get (D := D) (ci := 5) (v := .int (jI rc)) (C := RX5) (T := TX5) (N := 16) hx_ hb_ hts_ hin_ hown_ hM_.1 hP_ 0 rfl rfl 3 (by decide) (hts_ (.fieldLink RX5 37 "MusicHolesModel" "recorded" "I") (by decide +kernel)) (fun _ h9_ => h9_) rfl dX5_record_1 ?_
    refine lv_bipush (v := jI 6) hx_ hb_ dX5_record_4 (by decide +kernel) ?_
    have hJ50 : ∀ (rc_m1 : Int) (hsf_m2 : Int → Int) (H : Heap) (locs : List Loc) (ls : Array Slot), f_X5_record_J50 fu stf rc_m1 hsf_m2 = some (q_rc, q_hsf) → va_P D vwCl [(wMo y a rc_m1 is_ pd pn ho eh mv at_ tk fs lt ea), (wAr y (a 6) 205 stf), (wAr y (a 7) 205 kpf), (wAr y (a 8) 1230 hsf_m2), (wAr y (a 9) 410 slf)].flatten H → va_D A [(wMo y a rc_m1 is_ pd pn ho eh mv at_ tk fs lt ea), (wAr y (a 6) 205 stf), (wAr y (a 7) 205 kpf), (wAr y (a 8) 1230 hsf_m2), (wAr y (a 9) 410 slf)].flatten → va_S A s.heap H locs → lv_has ls 2 [(0, .ref (a 0))] → W p l e R s m args below meth c H locs 0 0 Q (F0 m 50 ls []) := by
      intro rc_m1 hsf_m2 H locs ls h_ hP_ hD_ hS_ hl_
      unfold f_X5_record_J50 at h_
      refine lv_aload_n hx_ hb_ dX5_record_50 rfl (lv_at hl_ 0 rfl) ?_
      refine va_get (D := D) (ci := 5) (v := .ref (a 6)) (C := RX5) (T := TX5) (N := 16) hx_ hb_ hts_ hin_ hown_ hM_.1 hP_ 0 rfl rfl 0 (by decide) (hts_ (.fieldLink RX5 7 "MusicHolesModel" "state" "[I") (by decide +kernel)) (fun _ h9_ => h9_) rfl dX5_record_51 ?_
      refine lv_iconst (v := jI 0) hx_ hb_ dX5_record_54 (by decide +kernel) ?_
      refine lv_aload_n hx_ hb_ dX5_record_55 rfl (lv_at hl_ 0 rfl) ?_
      refine va_get (D := D) (ci := 5) (v := .ref (a 8)) (C := RX5) (T := TX5) (N := 16) hx_ hb_ hts_ hin_ hown_ hM_.1 hP_ 0 rfl rfl 2 (by decide) (hts_ (.fieldLink RX5 16 "MusicHolesModel" "history" "[I") (by decide +kernel)) (fun _ h9_ => h9_) rfl dX5_record_56 ?_
      refine lv_aload_n hx_ hb_ dX5_record_59 rfl (lv_at hl_ 0 rfl) ?_
      refine va_get (D := D) (ci := 5) (v := .int (jI rc_m1)) (C := RX5) (T := TX5) (N := 16) hx_ hb_ hts_ hin_ hown_ hM_.1 hP_ 0 rfl rfl 3 (by decide) (hts_ (.fieldLink RX5 37 "MusicHolesModel" "recorded" "I") (by decide +kernel)) (fun _ h9_ => h9_) rfl dX5_record_60 ?_
      refine lv_sipush (v := jI 205) hx_ hb_ dX5_record_63 (by decide +kernel) ?_
      refine jx_imul hx_ hb_ dX5_record_66 ?_
      obtain ⟨q2f_m3, hq2f_m3, h_⟩ := jb_i h_
      refine jx_csv (b := 0) (C := "") (rv := 0) (wr := [(wMo y a rc_m1 is_ pd pn ho eh mv at_ tk fs lt ea), (wAr y (a 7) 205 kpf), (wAr y (a 9) 410 slf)]) (cw := [(wAr y (a 6) 205 stf), (wAr y (a 8) 1230 hsf_m2)]) (cw1 := [(wAr y (a 6) 205 stf), (wAr y (a 8) 1230 q2f_m3)]) (cs1 := [(wMo y a rc_m1 is_ pd pn ho eh mv at_ tk fs lt ea), (wAr y (a 6) 205 stf), (wAr y (a 7) 205 kpf), (wAr y (a 8) 1230 q2f_m3), (wAr y (a 9) 410 slf)]) (As := [.ref (a 6), .int (jI 0), .ref (a 8), .int (jI (rc_m1 * 205))]) (rest := []) ⟨hx_, hb_, hml_, hown_, hts_⟩ hM_ hP_ hD_ hS_ hA_ (jperm 5 [0, 2, 4, 1, 3] rfl (by decide) rfl) (jperm 5 [0, 3, 1, 4, 2] rfl (by decide) rfl) (c_X5_moves l D y z (a 6) (a 8) 205 (Nat.le_of_ble_eq_true rfl) 1230 (Nat.le_of_ble_eq_true rfl) stf hsf_m2 0 (rc_m1 * 205) fu q2f_m3 hq2f_m3) 4 (va_cwS 4 hts_ gX5_record_X5_moves rfl rfl rfl (by decide +kernel) ⟨by rw [hR_]; exact Nat.le_of_ble_eq_true rfl, by rw [hR_]; exact Nat.le_of_ble_eq_true rfl⟩) rfl ⟨rfl, rfl⟩ ⟨by rw [hR_]; exact Nat.le_of_ble_eq_true rfl, by rw [hR_]; exact Nat.le_of_ble_eq_true rfl⟩ rfl rfl hl_.1 (Nat.le_of_ble_eq_true rfl) dX5_record_67 ⟨Nat.zero_le _, Nat.zero_le _⟩ (fun H locs hP_ hD_ hS_ => ?_)
      refine lv_aload_n hx_ hb_ dX5_record_70 rfl (lv_at hl_ 0 rfl) ?_
      refine lv_dup hx_ hb_ dX5_record_71 rfl ?_
      refine va_get (D := D) (ci := 5) (v := .int (jI rc_m1)) (C := RX5) (T := TX5) (N := 16) hx_ hb_ hts_ hin_ hown_ hM_.1 hP_ 0 rfl rfl 3 (by decide) (hts_ (.fieldLink RX5 37 "MusicHolesModel" "recorded" "I") (by decide +kernel)) (fun _ h9_ => h9_) rfl dX5_record_72 ?_
      refine lv_iconst (v := jI 1) hx_ hb_ dX5_record_75 (by decide +kernel) ?_
      refine jx_iadd hx_ hb_ dX5_record_76 ?_
      refine va_put (D := D) (ci := 5) (v := .int (jI (rc_m1 + 1))) (ty := .int) (C := RX5) (T := TX5) (N := 16) hx_ hb_ hts_ hin_ tyX5 tyX5_ok nmX5 hown_ hM_.1 hP_ hD_ hS_ 0 rfl rfl 3 (by decide) (hts_ (.fieldLink RX5 37 "MusicHolesModel" "recorded" "I") (by decide +kernel)) (fun _ h9_ => h9_) rfl (by decide +kernel) rfl rfl (Nat.le_of_ble_eq_true rfl) dX5_record_77 (fun H locs hP_ hD_ hS_ => ?_)
      have hP_ : va_P D vwCl [(wMo y a (rc_m1 + 1) is_ pd pn ho eh mv at_ tk fs lt ea), (wAr y (a 6) 205 stf), (wAr y (a 7) 205 kpf), (wAr y (a 8) 1230 q2f_m3), (wAr y (a 9) 410 slf)].flatten H := hP_
      have hD_ : va_D A [(wMo y a (rc_m1 + 1) is_ pd pn ho eh mv at_ tk fs lt ea), (wAr y (a 6) 205 stf), (wAr y (a 7) 205 kpf), (wAr y (a 8) 1230 q2f_m3), (wAr y (a 9) 410 slf)].flatten := hD_
      exact hE_ _ _ _ _ _ _ h_ dX5_record_80 hP_ hD_ hS_
    refine jx_icmp_ne (tgt := 50) hx_ hb_ h_ dX5_record_6 (by decide) (fun h_ => ?_) (fun h_ => ?_)
    · exact hJ50 _ _ _ _ ls h_ hP_ hD_ hS_ (lv_sub hl_ [0] rfl)
    · refine lv_iconst (v := jI 0) hx_ hb_ dX5_record_9 (by decide +kernel) ?_
      refine lv_istore_n (lv' := [(1, .int (jI 0)), (0, .ref (a 0))]) hx_ hb_ dX5_record_10 rfl hl_ (by decide) rfl (fun ls hl_ => ?_)
      have hX40 : ∀ (rc_m4 : Int) (hsf_m5 : Int → Int) (H : Heap) (locs : List Loc) (ls : Array Slot), f_X5_record_X40 fu stf rc_m4 hsf_m5 = some (q_rc, q_hsf) → va_P D vwCl [(wMo y a rc_m4 is_ pd pn ho eh mv at_ tk fs lt ea), (wAr y (a 6) 205 stf), (wAr y (a 7) 205 kpf), (wAr y (a 8) 1230 hsf_m5), (wAr y (a 9) 410 slf)].flatten H → va_D A [(wMo y a rc_m4 is_ pd pn ho eh mv at_ tk fs lt ea), (wAr y (a 6) 205 stf), (wAr y (a 7) 205 kpf), (wAr y (a 8) 1230 hsf_m5), (wAr y (a 9) 410 slf)].flatten → va_S A s.heap H locs → lv_has ls 2 [(0, .ref (a 0))] → W p l e R s m args below meth c H locs 0 0 Q (F0 m 40 ls []) := by
        intro rc_m4 hsf_m5 H locs ls h_ hP_ hD_ hS_ hl_
        unfold f_X5_record_X40 at h_
        refine lv_aload_n hx_ hb_ dX5_record_40 rfl (lv_at hl_ 0 rfl) ?_
        refine lv_dup hx_ hb_ dX5_record_41 rfl ?_
        refine va_get (D := D) (ci := 5) (v := .int (jI rc_m4)) (C := RX5) (T := TX5) (N := 16) hx_ hb_ hts_ hin_ hown_ hM_.1 hP_ 0 rfl rfl 3 (by decide) (hts_ (.fieldLink RX5 37 "MusicHolesModel" "recorded" "I") (by decide +kernel)) (fun _ h9_ => h9_) rfl dX5_record_42 ?_
        refine lv_iconst (v := jI 1) hx_ hb_ dX5_record_45 (by decide +kernel) ?_
        refine jx_isub hx_ hb_ dX5_record_46 ?_
        refine va_put (D := D) (ci := 5) (v := .int (jI (rc_m4 - 1))) (ty := .int) (C := RX5) (T := TX5) (N := 16) hx_ hb_ hts_ hin_ tyX5 tyX5_ok nmX5 hown_ hM_.1 hP_ hD_ hS_ 0 rfl rfl 3 (by decide) (hts_ (.fieldLink RX5 37 "MusicHolesModel" "recorded" "I") (by decide +kernel)) (fun _ h9_ => h9_) rfl (by decide +kernel) rfl rfl (Nat.le_of_ble_eq_true rfl) dX5_record_47 (fun H locs hP_ hD_ hS_ => ?_)
        have hP_ : va_P D vwCl [(wMo y a (rc_m4 - 1) is_ pd pn ho eh mv at_ tk fs lt ea), (wAr y (a 6) 205 stf), (wAr y (a 7) 205 kpf), (wAr y (a 8) 1230 hsf_m5), (wAr y (a 9) 410 slf)].flatten H := hP_
        have hD_ : va_D A [(wMo y a (rc_m4 - 1) is_ pd pn ho eh mv at_ tk fs lt ea), (wAr y (a 6) 205 stf), (wAr y (a 7) 205 kpf), (wAr y (a 8) 1230 hsf_m5), (wAr y (a 9) 410 slf)].flatten := hD_
        exact hJ50 _ _ _ _ ls h_ hP_ hD_ hS_ (lv_sub hl_ [0] rfl)
      have hL11 : ∀ n11 : Nat, ∀ (rc_m6 : Int) (hsf_m7 : Int → Int) (v8 : Int) (H : Heap) (locs : List Loc) (ls : Array Slot), f_X5_record_L11 fu (f_X5_record_X40 fu stf) n11 rc_m6 hsf_m7 v8 = some (q_rc, q_hsf) → va_P D vwCl [(wMo y a rc_m6 is_ pd pn ho eh mv at_ tk fs lt ea), (wAr y (a 6) 205 stf), (wAr y (a 7) 205 kpf), (wAr y (a 8) 1230 hsf_m7), (wAr y (a 9) 410 slf)].flatten H → va_D A [(wMo y a rc_m6 is_ pd pn ho eh mv at_ tk fs lt ea), (wAr y (a 6) 205 stf), (wAr y (a 7) 205 kpf), (wAr y (a 8) 1230 hsf_m7), (wAr y (a 9) 410 slf)].flatten → va_S A s.heap H locs → lv_has ls 2 [(0, .ref (a 0)), (1, .int (jI v8))] → W p l e R s m args below meth c H locs 0 0 Q (F0 m 11 ls []) := by
        intro n11
        induction n11 with
        | zero => intro _ _ _ H locs ls h_; have h_ : (none : Option (Int × (Int → Int))) = some (q_rc, q_hsf) := h_; cases h_
        | succ n11 ih11 =>
          intro rc_m6 hsf_m7 v8 H locs ls h_ hP_ hD_ hS_ hl_
          replace h_ : f_X5_record_L11_b fu (f_X5_record_X40 fu stf) (f_X5_record_L11 fu (f_X5_record_X40 fu stf) n11) rc_m6 hsf_m7 v8 = some (q_rc, q_hsf) := h_
          unfold f_X5_record_L11_b at h_
          refine lv_iload_n hx_ hb_ dX5_record_11 rfl (lv_at hl_ 1 rfl) ?_
          refine lv_sipush (v := jI 1025) hx_ hb_ dX5_record_12 (by decide +kernel) ?_
          refine jx_icmp_ge (tgt := 40) hx_ hb_ h_ dX5_record_15 (by decide) (fun h_ => ?_) (fun h_ => ?_)
          · exact hX40 _ _ _ _ ls h_ hP_ hD_ hS_ (lv_sub hl_ [0] rfl)
          · refine lv_aload_n hx_ hb_ dX5_record_18 rfl (lv_at hl_ 0 rfl) ?_
            refine va_get (D := D) (ci := 5) (v := .ref (a 8)) (C := RX5) (T := TX5) (N := 16) hx_ hb_ hts_ hin_ hown_ hM_.1 hP_ 0 rfl rfl 2 (by decide) (hts_ (.fieldLink RX5 16 "MusicHolesModel" "history" "[I") (by decide +kernel)) (fun _ h9_ => h9_) rfl dX5_record_19 ?_
            refine lv_iload_n hx_ hb_ dX5_record_22 rfl (lv_at hl_ 1 rfl) ?_
            refine lv_aload_n hx_ hb_ dX5_record_23 rfl (lv_at hl_ 0 rfl) ?_
            refine va_get (D := D) (ci := 5) (v := .ref (a 8)) (C := RX5) (T := TX5) (N := 16) hx_ hb_ hts_ hin_ hown_ hM_.1 hP_ 0 rfl rfl 2 (by decide) (hts_ (.fieldLink RX5 16 "MusicHolesModel" "history" "[I") (by decide +kernel)) (fun _ h9_ => h9_) rfl dX5_record_24 ?_
            refine lv_iload_n hx_ hb_ dX5_record_27 rfl (lv_at hl_ 1 rfl) ?_
            refine lv_sipush (v := jI 205) hx_ hb_ dX5_record_28 (by decide +kernel) ?_
            refine jx_iadd hx_ hb_ dX5_record_31 ?_
            refine jx_iald hx_ hb_ hM_ hP_ 8 0 rfl rfl rfl (Nat.le_of_ble_eq_true rfl) h_ dX5_record_32 (fun h_ => ?_)
            refine jx_iast hx_ hb_ hM_ hP_ hD_ hS_ 8 0 rfl rfl rfl (Nat.le_of_ble_eq_true rfl) h_ dX5_record_33 (fun H locs h_ hP_ hD_ hS_ => ?_)
            have hP_ : va_P D vwCl [(wMo y a rc_m6 is_ pd pn ho eh mv at_ tk fs lt ea), (wAr y (a 6) 205 stf), (wAr y (a 7) 205 kpf), (wAr y (a 8) 1230 (uI hsf_m7 v8 (hsf_m7 (v8 + 205)))), (wAr y (a 9) 410 slf)].flatten H := hP_
            have hD_ : va_D A [(wMo y a rc_m6 is_ pd pn ho eh mv at_ tk fs lt ea), (wAr y (a 6) 205 stf), (wAr y (a 7) 205 kpf), (wAr y (a 8) 1230 (uI hsf_m7 v8 (hsf_m7 (v8 + 205)))), (wAr y (a 9) 410 slf)].flatten := hD_
            refine lv_iinc (v := jI (v8 + 1)) (lv' := [(1, .int (jI (v8 + 1))), (0, .ref (a 0))]) hx_ hb_ dX5_record_34 hl_ (k := 1) rfl (jI_add _ _) (by decide) rfl (fun ls hl_ => ?_)
            refine lv_goto (tgt := 11) hx_ hb_ dX5_record_37 (by decide) ?_
            exact ih11 _ _ _ _ _ ls h_ hP_ hD_ hS_ (lv_sub hl_ [1, 0] rfl)
      exact hL11 fu _ _ _ _ _ ls h_ hP_ hD_ hS_ (lv_sub hl_ [1, 0] rfl)
  exact key_ _ (fun rc9 hsf9 H locs pc ls h9_ hdg_ hP_ hD_ hS_ => by cases h9_; exact jend_v hx_ hb_ hr_ hlocks_ hP_ hD_ hS_ hdg_)
def rm_X5_isTrack : Room := { frames := 1, cells := 0, slots := 0, locals := 22 }
set_option maxRecDepth 100000 in
set_option maxHeartbeats 8000000 in
theorem c_X5_isTrack (l : Launch) (D : va_G) (y : Nat → ClassId) (z : Nat → Nat)   (x0 : Int) (fu : Nat) (rr : Int) (h_ : f_X5_isTrack fu x0 = some rr) : jCI l D y z yX5_isTrack wsX5_isTrack rm_X5_isTrack [.int (jI x0)] [] [] rr := by
  intro sz
  refine jmet (Qc := (fun A => va_Qi (fun v (_ : Unit) => v = jI rr) (jB D A []) A)) (cc := cX5_isTrack) (maxL := 1) (ret := (some .boolean)) (own := RX5) (by decide) rfl (Nat.le_of_ble_eq_true rfl) rfl (fun p e s m R args below meth c A ls hR_ hargs_ hx_ hb_ hr_ hlocks_ hml_ hown_ hts_ hname_ hsz_ hP_ hD_ hA_ hM_ hl_ => ?_)
  have key_ : ∀ Q : State → Prop, (∀ (v9 : Int) (H : Heap) (locs : List Loc) (pc : Nat) (ls : Array Slot), some v9 = some rr → (v9 = 0 ∨ v9 = 1) → decode cX5_isTrack pc = .ok (.ireturn, 1) → va_P D vwCl [].flatten H → va_D A [].flatten → va_S A s.heap H locs → W p l e R s m args below meth c H locs 0 0 Q (F0 m pc ls [.int (jI v9)])) → W p l e R s m args below meth c s.heap [] 0 0 Q (F0 m 0 ls []) := by
    intro Q hE_
    have hS_ : va_S A s.heap s.heap [] := va_S.rf
    have hl_ : lv_has ls 1 [(0, .int (jI x0))] := hl_
    unfold f_X5_isTrack at h_
    refine lv_iload_n hx_ hb_ dX5_isTrack_0 rfl (lv_at hl_ 0 rfl) ?_
    refine lv_iconst (v := jI 0) hx_ hb_ dX5_isTrack_1 (by decide +kernel) ?_
    refine lv_bipush (v := jI 11) hx_ hb_ dX5_isTrack_2 (by decide +kernel) ?_
    obtain ⟨v1, hv1, h_⟩ := jb_i h_
    refine jx_csi (b := 0) (C := "") (wr := []) (cw := []) (cw1 := []) (cs1 := []) (As := [.int (jI x0), .int (jI 0), .int (jI 11)]) (rest := []) ⟨hx_, hb_, hml_, hown_, hts_⟩ hM_ hP_ hD_ hS_ hA_ (List.Perm.refl _) (List.Perm.refl _) (c_X5_within l D y z x0 0 11 fu v1 hv1) 3 (va_cwS 3 hts_ gX5_isTrack_X5_within rfl rfl rfl (by decide +kernel) ⟨by rw [hR_]; exact Nat.le_of_ble_eq_true rfl, by rw [hR_]; exact Nat.le_of_ble_eq_true rfl⟩) rfl ⟨rfl, rfl⟩ ⟨by rw [hR_]; exact Nat.le_of_ble_eq_true rfl, by rw [hR_]; exact Nat.le_of_ble_eq_true rfl⟩ rfl rfl hl_.1 (Nat.le_of_ble_eq_true rfl) dX5_isTrack_4 ⟨Nat.zero_le _, Nat.zero_le _⟩ (fun H locs hP_ hD_ hS_ => ?_)
    obtain ⟨hz_, h_⟩ := jbo_i h_
    exact hE_ _ _ _ _ _ h_ hz_ dX5_isTrack_7 hP_ hD_ hS_
  exact key_ _ (fun v9 H locs pc ls h9_ hz_ hdg_ hP_ hD_ hS_ => by cases h9_; exact jend_z hx_ hb_ hr_ hlocks_ hz_ hP_ hD_ hS_ hdg_)
def rm_X5_isStep : Room := { frames := 1, cells := 0, slots := 0, locals := 22 }
set_option maxRecDepth 100000 in
set_option maxHeartbeats 8000000 in
theorem c_X5_isStep (l : Launch) (D : va_G) (y : Nat → ClassId) (z : Nat → Nat)   (x0 : Int) (fu : Nat) (rr : Int) (h_ : f_X5_isStep fu x0 = some rr) : jCI l D y z yX5_isStep wsX5_isStep rm_X5_isStep [.int (jI x0)] [] [] rr := by
  intro sz
  refine jmet (Qc := (fun A => va_Qi (fun v (_ : Unit) => v = jI rr) (jB D A []) A)) (cc := cX5_isStep) (maxL := 1) (ret := (some .boolean)) (own := RX5) (by decide) rfl (Nat.le_of_ble_eq_true rfl) rfl (fun p e s m R args below meth c A ls hR_ hargs_ hx_ hb_ hr_ hlocks_ hml_ hown_ hts_ hname_ hsz_ hP_ hD_ hA_ hM_ hl_ => ?_)
  have key_ : ∀ Q : State → Prop, (∀ (v9 : Int) (H : Heap) (locs : List Loc) (pc : Nat) (ls : Array Slot), some v9 = some rr → (v9 = 0 ∨ v9 = 1) → decode cX5_isStep pc = .ok (.ireturn, 1) → va_P D vwCl [].flatten H → va_D A [].flatten → va_S A s.heap H locs → W p l e R s m args below meth c H locs 0 0 Q (F0 m pc ls [.int (jI v9)])) → W p l e R s m args below meth c s.heap [] 0 0 Q (F0 m 0 ls []) := by
    intro Q hE_
    have hS_ : va_S A s.heap s.heap [] := va_S.rf
    have hl_ : lv_has ls 1 [(0, .int (jI x0))] := hl_
    unfold f_X5_isStep at h_
    refine lv_iload_n hx_ hb_ dX5_isStep_0 rfl (lv_at hl_ 0 rfl) ?_
    refine lv_iconst (v := jI 0) hx_ hb_ dX5_isStep_1 (by decide +kernel) ?_
    refine lv_bipush (v := jI 99) hx_ hb_ dX5_isStep_2 (by decide +kernel) ?_
    obtain ⟨v1, hv1, h_⟩ := jb_i h_
    refine jx_csi (b := 0) (C := "") (wr := []) (cw := []) (cw1 := []) (cs1 := []) (As := [.int (jI x0), .int (jI 0), .int (jI 99)]) (rest := []) ⟨hx_, hb_, hml_, hown_, hts_⟩ hM_ hP_ hD_ hS_ hA_ (List.Perm.refl _) (List.Perm.refl _) (c_X5_within l D y z x0 0 99 fu v1 hv1) 3 (va_cwS 3 hts_ gX5_isStep_X5_within rfl rfl rfl (by decide +kernel) ⟨by rw [hR_]; exact Nat.le_of_ble_eq_true rfl, by rw [hR_]; exact Nat.le_of_ble_eq_true rfl⟩) rfl ⟨rfl, rfl⟩ ⟨by rw [hR_]; exact Nat.le_of_ble_eq_true rfl, by rw [hR_]; exact Nat.le_of_ble_eq_true rfl⟩ rfl rfl hl_.1 (Nat.le_of_ble_eq_true rfl) dX5_isStep_4 ⟨Nat.zero_le _, Nat.zero_le _⟩ (fun H locs hP_ hD_ hS_ => ?_)
    obtain ⟨hz_, h_⟩ := jbo_i h_
    exact hE_ _ _ _ _ _ h_ hz_ dX5_isStep_7 hP_ hD_ hS_
  exact key_ _ (fun v9 H locs pc ls h9_ hz_ hdg_ hP_ hD_ hS_ => by cases h9_; exact jend_z hx_ hb_ hr_ hlocks_ hz_ hP_ hD_ hS_ hdg_)
def rm_X5_isNote : Room := { frames := 1, cells := 0, slots := 0, locals := 22 }
set_option maxRecDepth 100000 in
set_option maxHeartbeats 8000000 in
theorem c_X5_isNote (l : Launch) (D : va_G) (y : Nat → ClassId) (z : Nat → Nat) (a : Nat → Nat) (rc : Int) (is_ : Int → Int) (pd : Int → Int) (pn : Int) (ho : Int → Int) (eh : Int → Int) (mv : Int → Int) (at_ : Int) (tk : Int) (fs : Int) (lt : Int) (ea : Int) (stf : Int → Int) (kpf : Int → Int) (hsf : Int → Int) (slf : Int → Int) (x1 : Int) (fu : Nat) (rr : Int) (h_ : f_X5_isNote fu stf x1 = some rr) : jCI l D y z yX5_isNote wsX5_isNote rm_X5_isNote [.ref (a 0), .int (jI x1)] [(wMo y a rc is_ pd pn ho eh mv at_ tk fs lt ea), (wAr y (a 6) 205 stf), (wAr y (a 7) 205 kpf), (wAr y (a 8) 1230 hsf), (wAr y (a 9) 410 slf)] [(wMo y a rc is_ pd pn ho eh mv at_ tk fs lt ea), (wAr y (a 6) 205 stf), (wAr y (a 7) 205 kpf), (wAr y (a 8) 1230 hsf), (wAr y (a 9) 410 slf)] rr := by
  intro sz
  refine jmet (Qc := (fun A => va_Qi (fun v (_ : Unit) => v = jI rr) (jB D A [(wMo y a rc is_ pd pn ho eh mv at_ tk fs lt ea), (wAr y (a 6) 205 stf), (wAr y (a 7) 205 kpf), (wAr y (a 8) 1230 hsf), (wAr y (a 9) 410 slf)]) A)) (cc := cX5_isNote) (maxL := 2) (ret := (some .boolean)) (own := RX5) (by decide) rfl (Nat.le_of_ble_eq_true rfl) rfl (fun p e s m R args below meth c A ls hR_ hargs_ hx_ hb_ hr_ hlocks_ hml_ hown_ hts_ hname_ hsz_ hP_ hD_ hA_ hM_ hl_ => ?_)
  have key_ : ∀ Q : State → Prop, (∀ (v9 : Int) (H : Heap) (locs : List Loc) (pc : Nat) (ls : Array Slot), some v9 = some rr → (v9 = 0 ∨ v9 = 1) → decode cX5_isNote pc = .ok (.ireturn, 1) → va_P D vwCl [(wMo y a rc is_ pd pn ho eh mv at_ tk fs lt ea), (wAr y (a 6) 205 stf), (wAr y (a 7) 205 kpf), (wAr y (a 8) 1230 hsf), (wAr y (a 9) 410 slf)].flatten H → va_D A [(wMo y a rc is_ pd pn ho eh mv at_ tk fs lt ea), (wAr y (a 6) 205 stf), (wAr y (a 7) 205 kpf), (wAr y (a 8) 1230 hsf), (wAr y (a 9) 410 slf)].flatten → va_S A s.heap H locs → W p l e R s m args below meth c H locs 0 0 Q (F0 m pc ls [.int (jI v9)])) → W p l e R s m args below meth c s.heap [] 0 0 Q (F0 m 0 ls []) := by
    intro Q hE_
    have hS_ : va_S A s.heap s.heap [] := va_S.rf
    have hl_ : lv_has ls 2 [(0, .ref (a 0)), (1, .int (jI x1))] := hl_
    have hin_ : ∀ w ∈ u_ws RX5 TX5 16, w ∈ wsX5_isNote := by decide +kernel
    unfold f_X5_isNote at h_
    refine lv_iload_n hx_ hb_ dX5_isNote_0 rfl (lv_at hl_ 1 rfl) ?_
    refine lv_iconst (v := jI 0) hx_ hb_ dX5_isNote_1 (by decide +kernel) ?_
    refine lv_aload_n hx_ hb_ dX5_isNote_2 rfl (lv_at hl_ 0 rfl) ?_
    refine va_get (D := D) (ci := 5) (v := .ref (a 6)) (C := RX5) (T := TX5) (N := 16) hx_ hb_ hts_ hin_ hown_ hM_.1 hP_ 0 rfl rfl 0 (by decide) (hts_ (.fieldLink RX5 7 "MusicHolesModel" "state" "[I") (by decide +kernel)) (fun _ h9_ => h9_) rfl dX5_isNote_3 ?_
    refine lv_iconst (v := jI 4) hx_ hb_ dX5_isNote_6 (by decide +kernel) ?_
    refine jx_iald hx_ hb_ hM_ hP_ 6 0 rfl rfl rfl (Nat.le_of_ble_eq_true rfl) h_ dX5_isNote_7 (fun h_ => ?_)
    refine lv_iconst (v := jI 1) hx_ hb_ dX5_isNote_8 (by decide +kernel) ?_
    refine jx_isub hx_ hb_ dX5_isNote_9 ?_
    obtain ⟨v1, hv1, h_⟩ := jb_i h_
    refine jx_csi (b := 0) (C := "") (wr := [(wMo y a rc is_ pd pn ho eh mv at_ tk fs lt ea), (wAr y (a 6) 205 stf), (wAr y (a 7) 205 kpf), (wAr y (a 8) 1230 hsf), (wAr y (a 9) 410 slf)]) (cw := []) (cw1 := []) (cs1 := [(wMo y a rc is_ pd pn ho eh mv at_ tk fs lt ea), (wAr y (a 6) 205 stf), (wAr y (a 7) 205 kpf), (wAr y (a 8) 1230 hsf), (wAr y (a 9) 410 slf)]) (As := [.int (jI x1), .int (jI 0), .int (jI ((stf 4) - 1))]) (rest := []) ⟨hx_, hb_, hml_, hown_, hts_⟩ hM_ hP_ hD_ hS_ hA_ (List.Perm.of_eq (List.append_nil _).symm) (List.Perm.of_eq (List.append_nil _)) (c_X5_within l D y z x1 0 ((stf 4) - 1) fu v1 hv1) 3 (va_cwS 3 hts_ gX5_isNote_X5_within rfl rfl rfl (by decide +kernel) ⟨by rw [hR_]; exact Nat.le_of_ble_eq_true rfl, by rw [hR_]; exact Nat.le_of_ble_eq_true rfl⟩) rfl ⟨rfl, rfl⟩ ⟨by rw [hR_]; exact Nat.le_of_ble_eq_true rfl, by rw [hR_]; exact Nat.le_of_ble_eq_true rfl⟩ rfl rfl hl_.1 (Nat.le_of_ble_eq_true rfl) dX5_isNote_10 ⟨Nat.zero_le _, Nat.zero_le _⟩ (fun H locs hP_ hD_ hS_ => ?_)
    obtain ⟨hz_, h_⟩ := jbo_i h_
    exact hE_ _ _ _ _ _ h_ hz_ dX5_isNote_13 hP_ hD_ hS_
  exact key_ _ (fun v9 H locs pc ls h9_ hz_ hdg_ hP_ hD_ hS_ => by cases h9_; exact jend_z hx_ hb_ hr_ hlocks_ hz_ hP_ hD_ hS_ hdg_)
def rm_X5_part : Room := { frames := 0, cells := 0, slots := 0, locals := 0 }
set_option maxRecDepth 100000 in
set_option maxHeartbeats 8000000 in
theorem c_X5_part (l : Launch) (D : va_G) (y : Nat → ClassId) (z : Nat → Nat) (a : Nat → Nat) (rc : Int) (is_ : Int → Int) (pd : Int → Int) (pn : Int) (ho : Int → Int) (eh : Int → Int) (mv : Int → Int) (at_ : Int) (tk : Int) (fs : Int) (lt : Int) (ea : Int) (stf : Int → Int) (kpf : Int → Int) (hsf : Int → Int) (slf : Int → Int) (x1 : Int) (x2 : Int) (fu : Nat) (rr : Int) (h_ : f_X5_part fu stf x1 x2 = some rr) : jCI l D y z yX5_part wsX5_part rm_X5_part [.ref (a 0), .int (jI x1), .int (jI x2)] [(wMo y a rc is_ pd pn ho eh mv at_ tk fs lt ea), (wAr y (a 6) 205 stf), (wAr y (a 7) 205 kpf), (wAr y (a 8) 1230 hsf), (wAr y (a 9) 410 slf)] [(wMo y a rc is_ pd pn ho eh mv at_ tk fs lt ea), (wAr y (a 6) 205 stf), (wAr y (a 7) 205 kpf), (wAr y (a 8) 1230 hsf), (wAr y (a 9) 410 slf)] rr := by
  intro sz
  refine jmet (Qc := (fun A => va_Qi (fun v (_ : Unit) => v = jI rr) (jB D A [(wMo y a rc is_ pd pn ho eh mv at_ tk fs lt ea), (wAr y (a 6) 205 stf), (wAr y (a 7) 205 kpf), (wAr y (a 8) 1230 hsf), (wAr y (a 9) 410 slf)]) A)) (cc := cX5_part) (maxL := 3) (ret := (some .int)) (own := RX5) (by decide) rfl (Nat.le_of_ble_eq_true rfl) rfl (fun p e s m R args below meth c A ls hR_ hargs_ hx_ hb_ hr_ hlocks_ hml_ hown_ hts_ hname_ hsz_ hP_ hD_ hA_ hM_ hl_ => ?_)
  have key_ : ∀ Q : State → Prop, (∀ (v9 : Int) (H : Heap) (locs : List Loc) (pc : Nat) (ls : Array Slot), some v9 = some rr → decode cX5_part pc = .ok (.ireturn, 1) → va_P D vwCl [(wMo y a rc is_ pd pn ho eh mv at_ tk fs lt ea), (wAr y (a 6) 205 stf), (wAr y (a 7) 205 kpf), (wAr y (a 8) 1230 hsf), (wAr y (a 9) 410 slf)].flatten H → va_D A [(wMo y a rc is_ pd pn ho eh mv at_ tk fs lt ea), (wAr y (a 6) 205 stf), (wAr y (a 7) 205 kpf), (wAr y (a 8) 1230 hsf), (wAr y (a 9) 410 slf)].flatten → va_S A s.heap H locs → W p l e R s m args below meth c H locs 0 0 Q (F0 m pc ls [.int (jI v9)])) → W p l e R s m args below meth c s.heap [] 0 0 Q (F0 m 0 ls []) := by
    intro Q hE_
    have hS_ : va_S A s.heap s.heap [] := va_S.rf
    have hl_ : lv_has ls 3 [(0, .ref (a 0)), (1, .int (jI x1)), (2, .int (jI x2))] := hl_
    have hin_ : ∀ w ∈ u_ws RX5 TX5 16, w ∈ wsX5_part := by decide +kernel
    unfold f_X5_part at h_
    refine lv_aload_n hx_ hb_ dX5_part_0 rfl (lv_at hl_ 0 rfl) ?_
    refine va_get (D := D) (ci := 5) (v := .ref (a 6)) (C := RX5) (T := TX5) (N := 16) hx_ hb_ hts_ hin_ hown_ hM_.1 hP_ 0 rfl rfl 0 (by decide) (hts_ (.fieldLink RX5 7 "MusicHolesModel" "state" "[I") (by decide +kernel)) (fun _ h9_ => h9_) rfl dX5_part_1 ?_
    refine lv_iconst (v := jI 5) hx_ hb_ dX5_part_4 (by decide +kernel) ?_
    refine lv_iconst (v := jI 5) hx_ hb_ dX5_part_5 (by decide +kernel) ?_
    refine lv_iload_n hx_ hb_ dX5_part_6 rfl (lv_at hl_ 1 rfl) ?_
    refine jx_imul hx_ hb_ dX5_part_7 ?_
    refine jx_iadd hx_ hb_ dX5_part_8 ?_
    refine lv_iload_n hx_ hb_ dX5_part_9 rfl (lv_at hl_ 2 rfl) ?_
    refine jx_iadd hx_ hb_ dX5_part_10 ?_
    refine jx_iald hx_ hb_ hM_ hP_ 6 0 rfl rfl rfl (Nat.le_of_ble_eq_true rfl) h_ dX5_part_11 (fun h_ => ?_)
    exact hE_ _ _ _ _ _ h_ dX5_part_12 hP_ hD_ hS_
  exact key_ _ (fun v9 H locs pc ls h9_ hdg_ hP_ hD_ hS_ => by cases h9_; exact jend_i hx_ hb_ hr_ hlocks_ hP_ hD_ hS_ hdg_)
def rm_X5_setPart : Room := { frames := 0, cells := 0, slots := 0, locals := 0 }
set_option maxRecDepth 100000 in
set_option maxHeartbeats 8000000 in
theorem c_X5_setPart (l : Launch) (D : va_G) (y : Nat → ClassId) (z : Nat → Nat) (a : Nat → Nat) (rc : Int) (is_ : Int → Int) (pd : Int → Int) (pn : Int) (ho : Int → Int) (eh : Int → Int) (mv : Int → Int) (at_ : Int) (tk : Int) (fs : Int) (lt : Int) (ea : Int) (stf : Int → Int) (kpf : Int → Int) (hsf : Int → Int) (slf : Int → Int) (x1 : Int) (x2 : Int) (x3 : Int) (fu : Nat) (q_stf : Int → Int) (h_ : f_X5_setPart fu stf x1 x2 x3 = some q_stf) : jCV l D y z yX5_setPart wsX5_setPart rm_X5_setPart [.ref (a 0), .int (jI x1), .int (jI x2), .int (jI x3)] [(wMo y a rc is_ pd pn ho eh mv at_ tk fs lt ea), (wAr y (a 6) 205 stf), (wAr y (a 7) 205 kpf), (wAr y (a 8) 1230 hsf), (wAr y (a 9) 410 slf)] [(wMo y a rc is_ pd pn ho eh mv at_ tk fs lt ea), (wAr y (a 6) 205 q_stf), (wAr y (a 7) 205 kpf), (wAr y (a 8) 1230 hsf), (wAr y (a 9) 410 slf)] := by
  intro sz
  refine jmet (Qc := (fun A => va_Qv (fun (_ : Unit) => True) (jB D A [(wMo y a rc is_ pd pn ho eh mv at_ tk fs lt ea), (wAr y (a 6) 205 q_stf), (wAr y (a 7) 205 kpf), (wAr y (a 8) 1230 hsf), (wAr y (a 9) 410 slf)]) A)) (cc := cX5_setPart) (maxL := 4) (ret := none) (own := RX5) (by decide) rfl (Nat.le_of_ble_eq_true rfl) rfl (fun p e s m R args below meth c A ls hR_ hargs_ hx_ hb_ hr_ hlocks_ hml_ hown_ hts_ hname_ hsz_ hP_ hD_ hA_ hM_ hl_ => ?_)
  have key_ : ∀ Q : State → Prop, (∀ (stf9 : Int → Int) (H : Heap) (locs : List Loc) (pc : Nat) (ls : Array Slot), some stf9 = some q_stf → decode cX5_setPart pc = .ok (.return_, 1) → va_P D vwCl [(wMo y a rc is_ pd pn ho eh mv at_ tk fs lt ea), (wAr y (a 6) 205 stf9), (wAr y (a 7) 205 kpf), (wAr y (a 8) 1230 hsf), (wAr y (a 9) 410 slf)].flatten H → va_D A [(wMo y a rc is_ pd pn ho eh mv at_ tk fs lt ea), (wAr y (a 6) 205 stf9), (wAr y (a 7) 205 kpf), (wAr y (a 8) 1230 hsf), (wAr y (a 9) 410 slf)].flatten → va_S A s.heap H locs → W p l e R s m args below meth c H locs 0 0 Q (F0 m pc ls [])) → W p l e R s m args below meth c s.heap [] 0 0 Q (F0 m 0 ls []) := by
    intro Q hE_
    have hS_ : va_S A s.heap s.heap [] := va_S.rf
    have hl_ : lv_has ls 4 [(0, .ref (a 0)), (1, .int (jI x1)), (2, .int (jI x2)), (3, .int (jI x3))] := hl_
    have hin_ : ∀ w ∈ u_ws RX5 TX5 16, w ∈ wsX5_setPart := by decide +kernel
    unfold f_X5_setPart at h_
    refine lv_aload_n hx_ hb_ dX5_setPart_0 rfl (lv_at hl_ 0 rfl) ?_
    refine va_get (D := D) (ci := 5) (v := .ref (a 6)) (C := RX5) (T := TX5) (N := 16) hx_ hb_ hts_ hin_ hown_ hM_.1 hP_ 0 rfl rfl 0 (by decide) (hts_ (.fieldLink RX5 7 "MusicHolesModel" "state" "[I") (by decide +kernel)) (fun _ h9_ => h9_) rfl dX5_setPart_1 ?_
    refine lv_iconst (v := jI 5) hx_ hb_ dX5_setPart_4 (by decide +kernel) ?_
    refine lv_iconst (v := jI 5) hx_ hb_ dX5_setPart_5 (by decide +kernel) ?_
    refine lv_iload_n hx_ hb_ dX5_setPart_6 rfl (lv_at hl_ 1 rfl) ?_
    refine jx_imul hx_ hb_ dX5_setPart_7 ?_
    refine jx_iadd hx_ hb_ dX5_setPart_8 ?_
    refine lv_iload_n hx_ hb_ dX5_setPart_9 rfl (lv_at hl_ 2 rfl) ?_
    refine jx_iadd hx_ hb_ dX5_setPart_10 ?_
    refine lv_iload_n hx_ hb_ dX5_setPart_11 rfl (lv_at hl_ 3 rfl) ?_
    refine jx_iast hx_ hb_ hM_ hP_ hD_ hS_ 6 0 rfl rfl rfl (Nat.le_of_ble_eq_true rfl) h_ dX5_setPart_12 (fun H locs h_ hP_ hD_ hS_ => ?_)
    have hP_ : va_P D vwCl [(wMo y a rc is_ pd pn ho eh mv at_ tk fs lt ea), (wAr y (a 6) 205 (uI stf ((5 + (5 * x1)) + x2) x3)), (wAr y (a 7) 205 kpf), (wAr y (a 8) 1230 hsf), (wAr y (a 9) 410 slf)].flatten H := hP_
    have hD_ : va_D A [(wMo y a rc is_ pd pn ho eh mv at_ tk fs lt ea), (wAr y (a 6) 205 (uI stf ((5 + (5 * x1)) + x2) x3)), (wAr y (a 7) 205 kpf), (wAr y (a 8) 1230 hsf), (wAr y (a 9) 410 slf)].flatten := hD_
    exact hE_ _ _ _ _ _ h_ dX5_setPart_13 hP_ hD_ hS_
  exact key_ _ (fun stf9 H locs pc ls h9_ hdg_ hP_ hD_ hS_ => by cases h9_; exact jend_v hx_ hb_ hr_ hlocks_ hP_ hD_ hS_ hdg_)
def rm_X5_move : Room := { frames := 1, cells := 0, slots := 0, locals := 23 }
set_option maxRecDepth 100000 in
set_option maxHeartbeats 8000000 in
theorem c_X5_move (l : Launch) (D : va_G) (y : Nat → ClassId) (z : Nat → Nat) (a : Nat → Nat) (rc : Int) (is_ : Int → Int) (pd : Int → Int) (pn : Int) (ho : Int → Int) (eh : Int → Int) (mv : Int → Int) (at_ : Int) (tk : Int) (fs : Int) (lt : Int) (ea : Int) (stf : Int → Int) (kpf : Int → Int) (hsf : Int → Int) (slf : Int → Int) (x1 : Int) (x2 : Int) (fu : Nat) (q_stf : Int → Int) (h_ : f_X5_move fu stf x1 x2 = some q_stf) : jCV l D y z yX5_move wsX5_move rm_X5_move [.ref (a 0), .int (jI x1), .int (jI x2)] [(wMo y a rc is_ pd pn ho eh mv at_ tk fs lt ea), (wAr y (a 6) 205 stf), (wAr y (a 7) 205 kpf), (wAr y (a 8) 1230 hsf), (wAr y (a 9) 410 slf)] [(wMo y a rc is_ pd pn ho eh mv at_ tk fs lt ea), (wAr y (a 6) 205 q_stf), (wAr y (a 7) 205 kpf), (wAr y (a 8) 1230 hsf), (wAr y (a 9) 410 slf)] := by
  intro sz
  refine jmet (Qc := (fun A => va_Qv (fun (_ : Unit) => True) (jB D A [(wMo y a rc is_ pd pn ho eh mv at_ tk fs lt ea), (wAr y (a 6) 205 q_stf), (wAr y (a 7) 205 kpf), (wAr y (a 8) 1230 hsf), (wAr y (a 9) 410 slf)]) A)) (cc := cX5_move) (maxL := 4) (ret := none) (own := RX5) (by decide) rfl (Nat.le_of_ble_eq_true rfl) rfl (fun p e s m R args below meth c A ls hR_ hargs_ hx_ hb_ hr_ hlocks_ hml_ hown_ hts_ hname_ hsz_ hP_ hD_ hA_ hM_ hl_ => ?_)
  have key_ : ∀ Q : State → Prop, (∀ (stf9 : Int → Int) (H : Heap) (locs : List Loc) (pc : Nat) (ls : Array Slot), some stf9 = some q_stf → decode cX5_move pc = .ok (.return_, 1) → va_P D vwCl [(wMo y a rc is_ pd pn ho eh mv at_ tk fs lt ea), (wAr y (a 6) 205 stf9), (wAr y (a 7) 205 kpf), (wAr y (a 8) 1230 hsf), (wAr y (a 9) 410 slf)].flatten H → va_D A [(wMo y a rc is_ pd pn ho eh mv at_ tk fs lt ea), (wAr y (a 6) 205 stf9), (wAr y (a 7) 205 kpf), (wAr y (a 8) 1230 hsf), (wAr y (a 9) 410 slf)].flatten → va_S A s.heap H locs → W p l e R s m args below meth c H locs 0 0 Q (F0 m pc ls [])) → W p l e R s m args below meth c s.heap [] 0 0 Q (F0 m 0 ls []) := by
    intro Q hE_
    have hS_ : va_S A s.heap s.heap [] := va_S.rf
    have hl_ : lv_has ls 4 [(0, .ref (a 0)), (1, .int (jI x1)), (2, .int (jI x2))] := hl_
    have hin_ : ∀ w ∈ u_ws RX5 TX5 16, w ∈ wsX5_move := by decide +kernel
    unfold f_X5_move at h_
    refine lv_iconst (v := jI 0) hx_ hb_ dX5_move_0 (by decide +kernel) ?_
    refine lv_istore_n (lv' := [(3, .int (jI 0)), (0, .ref (a 0)), (1, .int (jI x1)), (2, .int (jI x2))]) hx_ hb_ dX5_move_1 rfl hl_ (by decide) rfl (fun ls hl_ => ?_)
    have hX25 : ∀ (stf_m1 : Int → Int) (H : Heap) (locs : List Loc) (ls : Array Slot), f_X5_move_X25 fu stf_m1 = some q_stf → va_P D vwCl [(wMo y a rc is_ pd pn ho eh mv at_ tk fs lt ea), (wAr y (a 6) 205 stf_m1), (wAr y (a 7) 205 kpf), (wAr y (a 8) 1230 hsf), (wAr y (a 9) 410 slf)].flatten H → va_D A [(wMo y a rc is_ pd pn ho eh mv at_ tk fs lt ea), (wAr y (a 6) 205 stf_m1), (wAr y (a 7) 205 kpf), (wAr y (a 8) 1230 hsf), (wAr y (a 9) 410 slf)].flatten → va_S A s.heap H locs → lv_has ls 4 [] → W p l e R s m args below meth c H locs 0 0 Q (F0 m 25 ls []) := by
      intro stf_m1 H locs ls h_ hP_ hD_ hS_ hl_
      unfold f_X5_move_X25 at h_
      exact hE_ _ _ _ _ _ h_ dX5_move_25 hP_ hD_ hS_
    have hL2 : ∀ n2 : Nat, ∀ (stf_m2 : Int → Int) (v3 : Int) (H : Heap) (locs : List Loc) (ls : Array Slot), f_X5_move_L2 fu x1 x2 (f_X5_move_X25 fu) n2 stf_m2 v3 = some q_stf → va_P D vwCl [(wMo y a rc is_ pd pn ho eh mv at_ tk fs lt ea), (wAr y (a 6) 205 stf_m2), (wAr y (a 7) 205 kpf), (wAr y (a 8) 1230 hsf), (wAr y (a 9) 410 slf)].flatten H → va_D A [(wMo y a rc is_ pd pn ho eh mv at_ tk fs lt ea), (wAr y (a 6) 205 stf_m2), (wAr y (a 7) 205 kpf), (wAr y (a 8) 1230 hsf), (wAr y (a 9) 410 slf)].flatten → va_S A s.heap H locs → lv_has ls 4 [(0, .ref (a 0)), (1, .int (jI x1)), (2, .int (jI x2)), (3, .int (jI v3))] → W p l e R s m args below meth c H locs 0 0 Q (F0 m 2 ls []) := by
      intro n2
      induction n2 with
      | zero => intro _ _ H locs ls h_; have h_ : (none : Option ((Int → Int))) = some q_stf := h_; cases h_
      | succ n2 ih2 =>
        intro stf_m2 v3 H locs ls h_ hP_ hD_ hS_ hl_
        replace h_ : f_X5_move_L2_b fu x1 x2 (f_X5_move_X25 fu) (f_X5_move_L2 fu x1 x2 (f_X5_move_X25 fu) n2) stf_m2 v3 = some q_stf := h_
        unfold f_X5_move_L2_b at h_
        refine lv_iload_n hx_ hb_ dX5_move_2 rfl (lv_at hl_ 3 rfl) ?_
        refine lv_iconst (v := jI 5) hx_ hb_ dX5_move_3 (by decide +kernel) ?_
        refine jx_icmp_ge (tgt := 25) hx_ hb_ h_ dX5_move_4 (by decide) (fun h_ => ?_) (fun h_ => ?_)
        · exact hX25 _ _ _ ls h_ hP_ hD_ hS_ (lv_sub hl_ [] rfl)
        · refine lv_aload_n hx_ hb_ dX5_move_7 rfl (lv_at hl_ 0 rfl) ?_
          refine lv_iload_n hx_ hb_ dX5_move_8 rfl (lv_at hl_ 2 rfl) ?_
          refine lv_iload_n hx_ hb_ dX5_move_9 rfl (lv_at hl_ 3 rfl) ?_
          refine lv_aload_n hx_ hb_ dX5_move_10 rfl (lv_at hl_ 0 rfl) ?_
          refine lv_iload_n hx_ hb_ dX5_move_11 rfl (lv_at hl_ 1 rfl) ?_
          refine lv_iload_n hx_ hb_ dX5_move_12 rfl (lv_at hl_ 3 rfl) ?_
          obtain ⟨v4, hv4, h_⟩ := jb_i h_
          refine jx_cvi (wr := []) (cw := [(wMo y a rc is_ pd pn ho eh mv at_ tk fs lt ea), (wAr y (a 6) 205 stf_m2), (wAr y (a 7) 205 kpf), (wAr y (a 8) 1230 hsf), (wAr y (a 9) 410 slf)]) (cw1 := [(wMo y a rc is_ pd pn ho eh mv at_ tk fs lt ea), (wAr y (a 6) 205 stf_m2), (wAr y (a 7) 205 kpf), (wAr y (a 8) 1230 hsf), (wAr y (a 9) 410 slf)]) (cs1 := [(wMo y a rc is_ pd pn ho eh mv at_ tk fs lt ea), (wAr y (a 6) 205 stf_m2), (wAr y (a 7) 205 kpf), (wAr y (a 8) 1230 hsf), (wAr y (a 9) 410 slf)]) (As := [.int (jI x1), .int (jI v3)]) (rest := [.int (jI v3), .int (jI x2), .ref (a 0)]) ⟨hx_, hb_, hml_, hown_, hts_⟩ hM_ hP_ hD_ hS_ hA_ (List.Perm.refl _) (List.Perm.refl _) (c_X5_part l D y z a rc is_ pd pn ho eh mv at_ tk fs lt ea stf_m2 kpf hsf slf x1 v3 fu v4 hv4) 2 gX5_move_X5_part rfl ⟨rfl, rfl⟩ (by decide +kernel) ⟨by rw [hR_]; exact Nat.le_of_ble_eq_true rfl, by rw [hR_]; exact Nat.le_of_ble_eq_true rfl⟩ 0 5 rfl rfl rfl rfl rfl hl_.1 (Nat.le_of_ble_eq_true rfl) dX5_move_13 ⟨Nat.zero_le _, Nat.zero_le _⟩ (fun H locs hP_ hD_ hS_ => ?_)
          obtain ⟨stf_m5, hstf_m5, h_⟩ := jb_i h_
          refine jx_cvv (rv := 0) (wr := []) (cw := [(wMo y a rc is_ pd pn ho eh mv at_ tk fs lt ea), (wAr y (a 6) 205 stf_m2), (wAr y (a 7) 205 kpf), (wAr y (a 8) 1230 hsf), (wAr y (a 9) 410 slf)]) (cw1 := [(wMo y a rc is_ pd pn ho eh mv at_ tk fs lt ea), (wAr y (a 6) 205 stf_m5), (wAr y (a 7) 205 kpf), (wAr y (a 8) 1230 hsf), (wAr y (a 9) 410 slf)]) (cs1 := [(wMo y a rc is_ pd pn ho eh mv at_ tk fs lt ea), (wAr y (a 6) 205 stf_m5), (wAr y (a 7) 205 kpf), (wAr y (a 8) 1230 hsf), (wAr y (a 9) 410 slf)]) (As := [.int (jI x2), .int (jI v3), .int (jI v4)]) (rest := []) ⟨hx_, hb_, hml_, hown_, hts_⟩ hM_ hP_ hD_ hS_ hA_ (List.Perm.refl _) (List.Perm.refl _) (c_X5_setPart l D y z a rc is_ pd pn ho eh mv at_ tk fs lt ea stf_m2 kpf hsf slf x2 v3 v4 fu stf_m5 hstf_m5) 3 gX5_move_X5_setPart rfl ⟨rfl, rfl⟩ (by decide +kernel) ⟨by rw [hR_]; exact Nat.le_of_ble_eq_true rfl, by rw [hR_]; exact Nat.le_of_ble_eq_true rfl⟩ 0 5 rfl rfl rfl rfl rfl hl_.1 (Nat.le_of_ble_eq_true rfl) dX5_move_16 ⟨Nat.zero_le _, Nat.zero_le _⟩ (fun H locs hP_ hD_ hS_ => ?_)
          refine lv_iinc (v := jI (v3 + 1)) (lv' := [(3, .int (jI (v3 + 1))), (0, .ref (a 0)), (1, .int (jI x1)), (2, .int (jI x2))]) hx_ hb_ dX5_move_19 hl_ (k := 3) rfl (jI_add _ _) (by decide) rfl (fun ls hl_ => ?_)
          refine lv_goto (tgt := 2) hx_ hb_ dX5_move_22 (by decide) ?_
          exact ih2 _ _ _ _ ls h_ hP_ hD_ hS_ (lv_sub hl_ [1, 2, 3, 0] rfl)
    exact hL2 fu _ _ _ _ ls h_ hP_ hD_ hS_ (lv_sub hl_ [1, 2, 3, 0] rfl)
  exact key_ _ (fun stf9 H locs pc ls h9_ hdg_ hP_ hD_ hS_ => by cases h9_; exact jend_v hx_ hb_ hr_ hlocks_ hP_ hD_ hS_ hdg_)
def rm_X5_isTaken : Room := { frames := 1, cells := 0, slots := 0, locals := 22 }
set_option maxRecDepth 100000 in
set_option maxHeartbeats 8000000 in
theorem c_X5_isTaken (l : Launch) (D : va_G) (y : Nat → ClassId) (z : Nat → Nat) (a : Nat → Nat) (rc : Int) (is_ : Int → Int) (pd : Int → Int) (pn : Int) (ho : Int → Int) (eh : Int → Int) (mv : Int → Int) (at_ : Int) (tk : Int) (fs : Int) (lt : Int) (ea : Int) (stf : Int → Int) (kpf : Int → Int) (hsf : Int → Int) (slf : Int → Int) (x1 : Int) (x2 : Int) (x3 : Int) (fu : Nat) (rr : Int) (h_ : f_X5_isTaken fu stf x1 x2 x3 = some rr) : jCI l D y z yX5_isTaken wsX5_isTaken rm_X5_isTaken [.ref (a 0), .int (jI x1), .int (jI x2), .int (jI x3)] [(wMo y a rc is_ pd pn ho eh mv at_ tk fs lt ea), (wAr y (a 6) 205 stf), (wAr y (a 7) 205 kpf), (wAr y (a 8) 1230 hsf), (wAr y (a 9) 410 slf)] [(wMo y a rc is_ pd pn ho eh mv at_ tk fs lt ea), (wAr y (a 6) 205 stf), (wAr y (a 7) 205 kpf), (wAr y (a 8) 1230 hsf), (wAr y (a 9) 410 slf)] rr := by
  intro sz
  refine jmet (Qc := (fun A => va_Qi (fun v (_ : Unit) => v = jI rr) (jB D A [(wMo y a rc is_ pd pn ho eh mv at_ tk fs lt ea), (wAr y (a 6) 205 stf), (wAr y (a 7) 205 kpf), (wAr y (a 8) 1230 hsf), (wAr y (a 9) 410 slf)]) A)) (cc := cX5_isTaken) (maxL := 6) (ret := (some .boolean)) (own := RX5) (by decide) rfl (Nat.le_of_ble_eq_true rfl) rfl (fun p e s m R args below meth c A ls hR_ hargs_ hx_ hb_ hr_ hlocks_ hml_ hown_ hts_ hname_ hsz_ hP_ hD_ hA_ hM_ hl_ => ?_)
  have key_ : ∀ Q : State → Prop, (∀ (v9 : Int) (H : Heap) (locs : List Loc) (pc : Nat) (ls : Array Slot), some v9 = some rr → (v9 = 0 ∨ v9 = 1) → decode cX5_isTaken pc = .ok (.ireturn, 1) → va_P D vwCl [(wMo y a rc is_ pd pn ho eh mv at_ tk fs lt ea), (wAr y (a 6) 205 stf), (wAr y (a 7) 205 kpf), (wAr y (a 8) 1230 hsf), (wAr y (a 9) 410 slf)].flatten H → va_D A [(wMo y a rc is_ pd pn ho eh mv at_ tk fs lt ea), (wAr y (a 6) 205 stf), (wAr y (a 7) 205 kpf), (wAr y (a 8) 1230 hsf), (wAr y (a 9) 410 slf)].flatten → va_S A s.heap H locs → W p l e R s m args below meth c H locs 0 0 Q (F0 m pc ls [.int (jI v9)])) → W p l e R s m args below meth c s.heap [] 0 0 Q (F0 m 0 ls []) := by
    intro Q hE_
    have hS_ : va_S A s.heap s.heap [] := va_S.rf
    have hl_ : lv_has ls 6 [(0, .ref (a 0)), (1, .int (jI x1)), (2, .int (jI x2)), (3, .int (jI x3))] := hl_
    have hin_ : ∀ w ∈ u_ws RX5 TX5 16, w ∈ wsX5_isTaken := by decide +kernel
    unfold f_X5_isTaken at h_
    refine lv_iconst (v := jI 0) hx_ hb_ dX5_isTaken_0 (by decide +kernel) ?_
    refine lv_istore (lv' := [(4, .int (jI 0)), (0, .ref (a 0)), (1, .int (jI x1)), (2, .int (jI x2)), (3, .int (jI x3))]) hx_ hb_ dX5_isTaken_1 hl_ (by decide) rfl (fun ls hl_ => ?_)
    refine lv_iconst (v := jI 0) hx_ hb_ dX5_isTaken_3 (by decide +kernel) ?_
    refine lv_istore (lv' := [(5, .int (jI 0)), (4, .int (jI 0)), (0, .ref (a 0)), (1, .int (jI x1)), (2, .int (jI x2)), (3, .int (jI x3))]) hx_ hb_ dX5_isTaken_4 hl_ (by decide) rfl (fun ls hl_ => ?_)
    have hX68 : ∀ (v1 : Int) (H : Heap) (locs : List Loc) (ls : Array Slot), f_X5_isTaken_X68 fu v1 = some rr → va_P D vwCl [(wMo y a rc is_ pd pn ho eh mv at_ tk fs lt ea), (wAr y (a 6) 205 stf), (wAr y (a 7) 205 kpf), (wAr y (a 8) 1230 hsf), (wAr y (a 9) 410 slf)].flatten H → va_D A [(wMo y a rc is_ pd pn ho eh mv at_ tk fs lt ea), (wAr y (a 6) 205 stf), (wAr y (a 7) 205 kpf), (wAr y (a 8) 1230 hsf), (wAr y (a 9) 410 slf)].flatten → va_S A s.heap H locs → lv_has ls 6 [(4, .int (jI v1))] → W p l e R s m args below meth c H locs 0 0 Q (F0 m 68 ls []) := by
      intro v1 H locs ls h_ hP_ hD_ hS_ hl_
      unfold f_X5_isTaken_X68 at h_
      refine lv_iload hx_ hb_ dX5_isTaken_68 (lv_at hl_ 0 rfl) ?_
      obtain ⟨hz_, h_⟩ := jbo_i h_
      exact hE_ _ _ _ _ _ h_ hz_ dX5_isTaken_70 hP_ hD_ hS_
    have hL6 : ∀ n6 : Nat, ∀ (v2 : Int) (v3 : Int) (H : Heap) (locs : List Loc) (ls : Array Slot), f_X5_isTaken_L6 fu stf x1 x2 x3 (f_X5_isTaken_X68 fu) n6 v2 v3 = some rr → va_P D vwCl [(wMo y a rc is_ pd pn ho eh mv at_ tk fs lt ea), (wAr y (a 6) 205 stf), (wAr y (a 7) 205 kpf), (wAr y (a 8) 1230 hsf), (wAr y (a 9) 410 slf)].flatten H → va_D A [(wMo y a rc is_ pd pn ho eh mv at_ tk fs lt ea), (wAr y (a 6) 205 stf), (wAr y (a 7) 205 kpf), (wAr y (a 8) 1230 hsf), (wAr y (a 9) 410 slf)].flatten → va_S A s.heap H locs → lv_has ls 6 [(0, .ref (a 0)), (1, .int (jI x1)), (2, .int (jI x2)), (3, .int (jI x3)), (4, .int (jI v2)), (5, .int (jI v3))] → W p l e R s m args below meth c H locs 0 0 Q (F0 m 6 ls []) := by
      intro n6
      induction n6 with
      | zero => intro _ _ H locs ls h_; have h_ : (none : Option (Int)) = some rr := h_; cases h_
      | succ n6 ih6 =>
        intro v2 v3 H locs ls h_ hP_ hD_ hS_ hl_
        replace h_ : f_X5_isTaken_L6_b fu stf x1 x2 x3 (f_X5_isTaken_X68 fu) (f_X5_isTaken_L6 fu stf x1 x2 x3 (f_X5_isTaken_X68 fu) n6) v2 v3 = some rr := h_
        unfold f_X5_isTaken_L6_b at h_
        refine lv_iload hx_ hb_ dX5_isTaken_6 (lv_at hl_ 5 rfl) ?_
        refine lv_aload_n hx_ hb_ dX5_isTaken_8 rfl (lv_at hl_ 0 rfl) ?_
        refine va_get (D := D) (ci := 5) (v := .ref (a 6)) (C := RX5) (T := TX5) (N := 16) hx_ hb_ hts_ hin_ hown_ hM_.1 hP_ 0 rfl rfl 0 (by decide) (hts_ (.fieldLink RX5 7 "MusicHolesModel" "state" "[I") (by decide +kernel)) (fun _ h9_ => h9_) rfl dX5_isTaken_9 ?_
        refine lv_iconst (v := jI 4) hx_ hb_ dX5_isTaken_12 (by decide +kernel) ?_
        refine jx_iald hx_ hb_ hM_ hP_ 6 0 rfl rfl rfl (Nat.le_of_ble_eq_true rfl) h_ dX5_isTaken_13 (fun h_ => ?_)
        refine jx_icmp_ge (tgt := 68) hx_ hb_ h_ dX5_isTaken_14 (by decide) (fun h_ => ?_) (fun h_ => ?_)
        · exact hX68 _ _ _ ls h_ hP_ hD_ hS_ (lv_sub hl_ [4] rfl)
        · refine lv_iload hx_ hb_ dX5_isTaken_17 (lv_at hl_ 4 rfl) ?_
          refine jx_if_ne (tgt := 55) hx_ hb_ h_ dX5_isTaken_19 (by decide) (fun h_ => ?_) (fun h_ => ?_)
          · refine lv_iconst (v := jI 1) hx_ hb_ dX5_isTaken_55 (by decide +kernel) ?_
            refine lv_goto (tgt := 60) hx_ hb_ dX5_isTaken_56 (by decide) ?_
            refine lv_istore (lv' := [(4, .int (jI 1)), (0, .ref (a 0)), (1, .int (jI x1)), (2, .int (jI x2)), (3, .int (jI x3)), (5, .int (jI v3))]) hx_ hb_ dX5_isTaken_60 hl_ (by decide) rfl (fun ls hl_ => ?_)
            refine lv_iinc (v := jI (v3 + 1)) (lv' := [(5, .int (jI (v3 + 1))), (4, .int (jI 1)), (0, .ref (a 0)), (1, .int (jI x1)), (2, .int (jI x2)), (3, .int (jI x3))]) hx_ hb_ dX5_isTaken_62 hl_ (k := 5) rfl (jI_add _ _) (by decide) rfl (fun ls hl_ => ?_)
            refine lv_goto (tgt := 6) hx_ hb_ dX5_isTaken_65 (by decide) ?_
            exact ih6 _ _ _ _ ls h_ hP_ hD_ hS_ (lv_sub hl_ [2, 3, 4, 5, 1, 0] rfl)
          · refine lv_aload_n hx_ hb_ dX5_isTaken_22 rfl (lv_at hl_ 0 rfl) ?_
            refine lv_iload hx_ hb_ dX5_isTaken_23 (lv_at hl_ 5 rfl) ?_
            refine lv_iconst (v := jI 0) hx_ hb_ dX5_isTaken_25 (by decide +kernel) ?_
            obtain ⟨v4, hv4, h_⟩ := jb_i h_
            refine jx_cvi (wr := []) (cw := [(wMo y a rc is_ pd pn ho eh mv at_ tk fs lt ea), (wAr y (a 6) 205 stf), (wAr y (a 7) 205 kpf), (wAr y (a 8) 1230 hsf), (wAr y (a 9) 410 slf)]) (cw1 := [(wMo y a rc is_ pd pn ho eh mv at_ tk fs lt ea), (wAr y (a 6) 205 stf), (wAr y (a 7) 205 kpf), (wAr y (a 8) 1230 hsf), (wAr y (a 9) 410 slf)]) (cs1 := [(wMo y a rc is_ pd pn ho eh mv at_ tk fs lt ea), (wAr y (a 6) 205 stf), (wAr y (a 7) 205 kpf), (wAr y (a 8) 1230 hsf), (wAr y (a 9) 410 slf)]) (As := [.int (jI v3), .int (jI 0)]) (rest := []) ⟨hx_, hb_, hml_, hown_, hts_⟩ hM_ hP_ hD_ hS_ hA_ (List.Perm.refl _) (List.Perm.refl _) (c_X5_part l D y z a rc is_ pd pn ho eh mv at_ tk fs lt ea stf kpf hsf slf v3 0 fu v4 hv4) 2 gX5_isTaken_X5_part rfl ⟨rfl, rfl⟩ (by decide +kernel) ⟨by rw [hR_]; exact Nat.le_of_ble_eq_true rfl, by rw [hR_]; exact Nat.le_of_ble_eq_true rfl⟩ 0 5 rfl rfl rfl rfl rfl hl_.1 (Nat.le_of_ble_eq_true rfl) dX5_isTaken_26 ⟨Nat.zero_le _, Nat.zero_le _⟩ (fun H locs hP_ hD_ hS_ => ?_)
            refine lv_iload_n hx_ hb_ dX5_isTaken_29 rfl (lv_at hl_ 1 rfl) ?_
            refine jx_icmp_ne (tgt := 59) hx_ hb_ h_ dX5_isTaken_30 (by decide) (fun h_ => ?_) (fun h_ => ?_)
            · refine lv_iconst (v := jI 0) hx_ hb_ dX5_isTaken_59 (by decide +kernel) ?_
              refine lv_istore (lv' := [(4, .int (jI 0)), (0, .ref (a 0)), (1, .int (jI x1)), (2, .int (jI x2)), (3, .int (jI x3)), (5, .int (jI v3))]) hx_ hb_ dX5_isTaken_60 hl_ (by decide) rfl (fun ls hl_ => ?_)
              refine lv_iinc (v := jI (v3 + 1)) (lv' := [(5, .int (jI (v3 + 1))), (4, .int (jI 0)), (0, .ref (a 0)), (1, .int (jI x1)), (2, .int (jI x2)), (3, .int (jI x3))]) hx_ hb_ dX5_isTaken_62 hl_ (k := 5) rfl (jI_add _ _) (by decide) rfl (fun ls hl_ => ?_)
              refine lv_goto (tgt := 6) hx_ hb_ dX5_isTaken_65 (by decide) ?_
              exact ih6 _ _ _ _ ls h_ hP_ hD_ hS_ (lv_sub hl_ [2, 3, 4, 5, 1, 0] rfl)
            · refine lv_aload_n hx_ hb_ dX5_isTaken_33 rfl (lv_at hl_ 0 rfl) ?_
              refine lv_iload hx_ hb_ dX5_isTaken_34 (lv_at hl_ 5 rfl) ?_
              refine lv_iconst (v := jI 1) hx_ hb_ dX5_isTaken_36 (by decide +kernel) ?_
              obtain ⟨v5, hv5, h_⟩ := jb_i h_
              refine jx_cvi (wr := []) (cw := [(wMo y a rc is_ pd pn ho eh mv at_ tk fs lt ea), (wAr y (a 6) 205 stf), (wAr y (a 7) 205 kpf), (wAr y (a 8) 1230 hsf), (wAr y (a 9) 410 slf)]) (cw1 := [(wMo y a rc is_ pd pn ho eh mv at_ tk fs lt ea), (wAr y (a 6) 205 stf), (wAr y (a 7) 205 kpf), (wAr y (a 8) 1230 hsf), (wAr y (a 9) 410 slf)]) (cs1 := [(wMo y a rc is_ pd pn ho eh mv at_ tk fs lt ea), (wAr y (a 6) 205 stf), (wAr y (a 7) 205 kpf), (wAr y (a 8) 1230 hsf), (wAr y (a 9) 410 slf)]) (As := [.int (jI v3), .int (jI 1)]) (rest := []) ⟨hx_, hb_, hml_, hown_, hts_⟩ hM_ hP_ hD_ hS_ hA_ (List.Perm.refl _) (List.Perm.refl _) (c_X5_part l D y z a rc is_ pd pn ho eh mv at_ tk fs lt ea stf kpf hsf slf v3 1 fu v5 hv5) 2 gX5_isTaken_X5_part rfl ⟨rfl, rfl⟩ (by decide +kernel) ⟨by rw [hR_]; exact Nat.le_of_ble_eq_true rfl, by rw [hR_]; exact Nat.le_of_ble_eq_true rfl⟩ 0 5 rfl rfl rfl rfl rfl hl_.1 (Nat.le_of_ble_eq_true rfl) dX5_isTaken_37 ⟨Nat.zero_le _, Nat.zero_le _⟩ (fun H locs hP_ hD_ hS_ => ?_)
              refine lv_iload_n hx_ hb_ dX5_isTaken_40 rfl (lv_at hl_ 3 rfl) ?_
              refine jx_icmp_gt (tgt := 59) hx_ hb_ h_ dX5_isTaken_41 (by decide) (fun h_ => ?_) (fun h_ => ?_)
              · refine lv_iconst (v := jI 0) hx_ hb_ dX5_isTaken_59 (by decide +kernel) ?_
                refine lv_istore (lv' := [(4, .int (jI 0)), (0, .ref (a 0)), (1, .int (jI x1)), (2, .int (jI x2)), (3, .int (jI x3)), (5, .int (jI v3))]) hx_ hb_ dX5_isTaken_60 hl_ (by decide) rfl (fun ls hl_ => ?_)
                refine lv_iinc (v := jI (v3 + 1)) (lv' := [(5, .int (jI (v3 + 1))), (4, .int (jI 0)), (0, .ref (a 0)), (1, .int (jI x1)), (2, .int (jI x2)), (3, .int (jI x3))]) hx_ hb_ dX5_isTaken_62 hl_ (k := 5) rfl (jI_add _ _) (by decide) rfl (fun ls hl_ => ?_)
                refine lv_goto (tgt := 6) hx_ hb_ dX5_isTaken_65 (by decide) ?_
                exact ih6 _ _ _ _ ls h_ hP_ hD_ hS_ (lv_sub hl_ [2, 3, 4, 5, 1, 0] rfl)
              · refine lv_aload_n hx_ hb_ dX5_isTaken_44 rfl (lv_at hl_ 0 rfl) ?_
                refine lv_iload hx_ hb_ dX5_isTaken_45 (lv_at hl_ 5 rfl) ?_
                refine lv_iconst (v := jI 2) hx_ hb_ dX5_isTaken_47 (by decide +kernel) ?_
                obtain ⟨v6, hv6, h_⟩ := jb_i h_
                refine jx_cvi (wr := []) (cw := [(wMo y a rc is_ pd pn ho eh mv at_ tk fs lt ea), (wAr y (a 6) 205 stf), (wAr y (a 7) 205 kpf), (wAr y (a 8) 1230 hsf), (wAr y (a 9) 410 slf)]) (cw1 := [(wMo y a rc is_ pd pn ho eh mv at_ tk fs lt ea), (wAr y (a 6) 205 stf), (wAr y (a 7) 205 kpf), (wAr y (a 8) 1230 hsf), (wAr y (a 9) 410 slf)]) (cs1 := [(wMo y a rc is_ pd pn ho eh mv at_ tk fs lt ea), (wAr y (a 6) 205 stf), (wAr y (a 7) 205 kpf), (wAr y (a 8) 1230 hsf), (wAr y (a 9) 410 slf)]) (As := [.int (jI v3), .int (jI 2)]) (rest := []) ⟨hx_, hb_, hml_, hown_, hts_⟩ hM_ hP_ hD_ hS_ hA_ (List.Perm.refl _) (List.Perm.refl _) (c_X5_part l D y z a rc is_ pd pn ho eh mv at_ tk fs lt ea stf kpf hsf slf v3 2 fu v6 hv6) 2 gX5_isTaken_X5_part rfl ⟨rfl, rfl⟩ (by decide +kernel) ⟨by rw [hR_]; exact Nat.le_of_ble_eq_true rfl, by rw [hR_]; exact Nat.le_of_ble_eq_true rfl⟩ 0 5 rfl rfl rfl rfl rfl hl_.1 (Nat.le_of_ble_eq_true rfl) dX5_isTaken_48 ⟨Nat.zero_le _, Nat.zero_le _⟩ (fun H locs hP_ hD_ hS_ => ?_)
                refine lv_iload_n hx_ hb_ dX5_isTaken_51 rfl (lv_at hl_ 2 rfl) ?_
                refine jx_icmp_lt (tgt := 59) hx_ hb_ h_ dX5_isTaken_52 (by decide) (fun h_ => ?_) (fun h_ => ?_)
                · refine lv_iconst (v := jI 0) hx_ hb_ dX5_isTaken_59 (by decide +kernel) ?_
                  refine lv_istore (lv' := [(4, .int (jI 0)), (0, .ref (a 0)), (1, .int (jI x1)), (2, .int (jI x2)), (3, .int (jI x3)), (5, .int (jI v3))]) hx_ hb_ dX5_isTaken_60 hl_ (by decide) rfl (fun ls hl_ => ?_)
                  refine lv_iinc (v := jI (v3 + 1)) (lv' := [(5, .int (jI (v3 + 1))), (4, .int (jI 0)), (0, .ref (a 0)), (1, .int (jI x1)), (2, .int (jI x2)), (3, .int (jI x3))]) hx_ hb_ dX5_isTaken_62 hl_ (k := 5) rfl (jI_add _ _) (by decide) rfl (fun ls hl_ => ?_)
                  refine lv_goto (tgt := 6) hx_ hb_ dX5_isTaken_65 (by decide) ?_
                  exact ih6 _ _ _ _ ls h_ hP_ hD_ hS_ (lv_sub hl_ [2, 3, 4, 5, 1, 0] rfl)
                · refine lv_iconst (v := jI 1) hx_ hb_ dX5_isTaken_55 (by decide +kernel) ?_
                  refine lv_goto (tgt := 60) hx_ hb_ dX5_isTaken_56 (by decide) ?_
                  refine lv_istore (lv' := [(4, .int (jI 1)), (0, .ref (a 0)), (1, .int (jI x1)), (2, .int (jI x2)), (3, .int (jI x3)), (5, .int (jI v3))]) hx_ hb_ dX5_isTaken_60 hl_ (by decide) rfl (fun ls hl_ => ?_)
                  refine lv_iinc (v := jI (v3 + 1)) (lv' := [(5, .int (jI (v3 + 1))), (4, .int (jI 1)), (0, .ref (a 0)), (1, .int (jI x1)), (2, .int (jI x2)), (3, .int (jI x3))]) hx_ hb_ dX5_isTaken_62 hl_ (k := 5) rfl (jI_add _ _) (by decide) rfl (fun ls hl_ => ?_)
                  refine lv_goto (tgt := 6) hx_ hb_ dX5_isTaken_65 (by decide) ?_
                  exact ih6 _ _ _ _ ls h_ hP_ hD_ hS_ (lv_sub hl_ [2, 3, 4, 5, 1, 0] rfl)
    exact hL6 fu _ _ _ _ ls h_ hP_ hD_ hS_ (lv_sub hl_ [2, 3, 4, 5, 1, 0] rfl)
  exact key_ _ (fun v9 H locs pc ls h9_ hz_ hdg_ hP_ hD_ hS_ => by cases h9_; exact jend_z hx_ hb_ hr_ hlocks_ hz_ hP_ hD_ hS_ hdg_)
def rm_X5_orderOf : Room := { frames := 1, cells := 0, slots := 0, locals := 22 }
set_option maxRecDepth 100000 in
set_option maxHeartbeats 8000000 in
theorem c_X5_orderOf (l : Launch) (D : va_G) (y : Nat → ClassId) (z : Nat → Nat) (a : Nat → Nat) (rc : Int) (is_ : Int → Int) (pd : Int → Int) (pn : Int) (ho : Int → Int) (eh : Int → Int) (mv : Int → Int) (at_ : Int) (tk : Int) (fs : Int) (lt : Int) (ea : Int) (stf : Int → Int) (kpf : Int → Int) (hsf : Int → Int) (slf : Int → Int) (x1 : Int) (fu : Nat) (rr : Int) (h_ : f_X5_orderOf fu stf x1 = some rr) : jCI l D y z yX5_orderOf wsX5_orderOf rm_X5_orderOf [.ref (a 0), .int (jI x1)] [(wMo y a rc is_ pd pn ho eh mv at_ tk fs lt ea), (wAr y (a 6) 205 stf), (wAr y (a 7) 205 kpf), (wAr y (a 8) 1230 hsf), (wAr y (a 9) 410 slf)] [(wMo y a rc is_ pd pn ho eh mv at_ tk fs lt ea), (wAr y (a 6) 205 stf), (wAr y (a 7) 205 kpf), (wAr y (a 8) 1230 hsf), (wAr y (a 9) 410 slf)] rr := by
  intro sz
  refine jmet (Qc := (fun A => va_Qi (fun v (_ : Unit) => v = jI rr) (jB D A [(wMo y a rc is_ pd pn ho eh mv at_ tk fs lt ea), (wAr y (a 6) 205 stf), (wAr y (a 7) 205 kpf), (wAr y (a 8) 1230 hsf), (wAr y (a 9) 410 slf)]) A)) (cc := cX5_orderOf) (maxL := 2) (ret := (some .int)) (own := RX5) (by decide) rfl (Nat.le_of_ble_eq_true rfl) rfl (fun p e s m R args below meth c A ls hR_ hargs_ hx_ hb_ hr_ hlocks_ hml_ hown_ hts_ hname_ hsz_ hP_ hD_ hA_ hM_ hl_ => ?_)
  have key_ : ∀ Q : State → Prop, (∀ (v9 : Int) (H : Heap) (locs : List Loc) (pc : Nat) (ls : Array Slot), some v9 = some rr → decode cX5_orderOf pc = .ok (.ireturn, 1) → va_P D vwCl [(wMo y a rc is_ pd pn ho eh mv at_ tk fs lt ea), (wAr y (a 6) 205 stf), (wAr y (a 7) 205 kpf), (wAr y (a 8) 1230 hsf), (wAr y (a 9) 410 slf)].flatten H → va_D A [(wMo y a rc is_ pd pn ho eh mv at_ tk fs lt ea), (wAr y (a 6) 205 stf), (wAr y (a 7) 205 kpf), (wAr y (a 8) 1230 hsf), (wAr y (a 9) 410 slf)].flatten → va_S A s.heap H locs → W p l e R s m args below meth c H locs 0 0 Q (F0 m pc ls [.int (jI v9)])) → W p l e R s m args below meth c s.heap [] 0 0 Q (F0 m 0 ls []) := by
    intro Q hE_
    have hS_ : va_S A s.heap s.heap [] := va_S.rf
    have hl_ : lv_has ls 2 [(0, .ref (a 0)), (1, .int (jI x1))] := hl_
    have hin_ : ∀ w ∈ u_ws RX5 TX5 16, w ∈ wsX5_orderOf := by decide +kernel
    unfold f_X5_orderOf at h_
    refine lv_bipush (v := jI 12) hx_ hb_ dX5_orderOf_0 (by decide +kernel) ?_
    refine lv_aload_n hx_ hb_ dX5_orderOf_2 rfl (lv_at hl_ 0 rfl) ?_
    refine lv_iload_n hx_ hb_ dX5_orderOf_3 rfl (lv_at hl_ 1 rfl) ?_
    refine lv_iconst (v := jI 1) hx_ hb_ dX5_orderOf_4 (by decide +kernel) ?_
    obtain ⟨v1, hv1, h_⟩ := jb_i h_
    refine jx_cvi (wr := []) (cw := [(wMo y a rc is_ pd pn ho eh mv at_ tk fs lt ea), (wAr y (a 6) 205 stf), (wAr y (a 7) 205 kpf), (wAr y (a 8) 1230 hsf), (wAr y (a 9) 410 slf)]) (cw1 := [(wMo y a rc is_ pd pn ho eh mv at_ tk fs lt ea), (wAr y (a 6) 205 stf), (wAr y (a 7) 205 kpf), (wAr y (a 8) 1230 hsf), (wAr y (a 9) 410 slf)]) (cs1 := [(wMo y a rc is_ pd pn ho eh mv at_ tk fs lt ea), (wAr y (a 6) 205 stf), (wAr y (a 7) 205 kpf), (wAr y (a 8) 1230 hsf), (wAr y (a 9) 410 slf)]) (As := [.int (jI x1), .int (jI 1)]) (rest := [.int (jI 12)]) ⟨hx_, hb_, hml_, hown_, hts_⟩ hM_ hP_ hD_ hS_ hA_ (List.Perm.refl _) (List.Perm.refl _) (c_X5_part l D y z a rc is_ pd pn ho eh mv at_ tk fs lt ea stf kpf hsf slf x1 1 fu v1 hv1) 2 gX5_orderOf_X5_part rfl ⟨rfl, rfl⟩ (by decide +kernel) ⟨by rw [hR_]; exact Nat.le_of_ble_eq_true rfl, by rw [hR_]; exact Nat.le_of_ble_eq_true rfl⟩ 0 5 rfl rfl rfl rfl rfl hl_.1 (Nat.le_of_ble_eq_true rfl) dX5_orderOf_5 ⟨Nat.zero_le _, Nat.zero_le _⟩ (fun H locs hP_ hD_ hS_ => ?_)
    refine jx_imul hx_ hb_ dX5_orderOf_8 ?_
    refine lv_aload_n hx_ hb_ dX5_orderOf_9 rfl (lv_at hl_ 0 rfl) ?_
    refine lv_iload_n hx_ hb_ dX5_orderOf_10 rfl (lv_at hl_ 1 rfl) ?_
    refine lv_iconst (v := jI 0) hx_ hb_ dX5_orderOf_11 (by decide +kernel) ?_
    obtain ⟨v2, hv2, h_⟩ := jb_i h_
    refine jx_cvi (wr := []) (cw := [(wMo y a rc is_ pd pn ho eh mv at_ tk fs lt ea), (wAr y (a 6) 205 stf), (wAr y (a 7) 205 kpf), (wAr y (a 8) 1230 hsf), (wAr y (a 9) 410 slf)]) (cw1 := [(wMo y a rc is_ pd pn ho eh mv at_ tk fs lt ea), (wAr y (a 6) 205 stf), (wAr y (a 7) 205 kpf), (wAr y (a 8) 1230 hsf), (wAr y (a 9) 410 slf)]) (cs1 := [(wMo y a rc is_ pd pn ho eh mv at_ tk fs lt ea), (wAr y (a 6) 205 stf), (wAr y (a 7) 205 kpf), (wAr y (a 8) 1230 hsf), (wAr y (a 9) 410 slf)]) (As := [.int (jI x1), .int (jI 0)]) (rest := [.int (jI (12 * v1))]) ⟨hx_, hb_, hml_, hown_, hts_⟩ hM_ hP_ hD_ hS_ hA_ (List.Perm.refl _) (List.Perm.refl _) (c_X5_part l D y z a rc is_ pd pn ho eh mv at_ tk fs lt ea stf kpf hsf slf x1 0 fu v2 hv2) 2 gX5_orderOf_X5_part rfl ⟨rfl, rfl⟩ (by decide +kernel) ⟨by rw [hR_]; exact Nat.le_of_ble_eq_true rfl, by rw [hR_]; exact Nat.le_of_ble_eq_true rfl⟩ 0 5 rfl rfl rfl rfl rfl hl_.1 (Nat.le_of_ble_eq_true rfl) dX5_orderOf_12 ⟨Nat.zero_le _, Nat.zero_le _⟩ (fun H locs hP_ hD_ hS_ => ?_)
    refine jx_iadd hx_ hb_ dX5_orderOf_15 ?_
    exact hE_ _ _ _ _ _ h_ dX5_orderOf_16 hP_ hD_ hS_
  exact key_ _ (fun v9 H locs pc ls h9_ hdg_ hP_ hD_ hS_ => by cases h9_; exact jend_i hx_ hb_ hr_ hlocks_ hP_ hD_ hS_ hdg_)
def rm_X5_putIn : Room := { frames := 2, cells := 0, slots := 0, locals := 46 }
set_option maxRecDepth 100000 in
set_option maxHeartbeats 8000000 in
theorem c_X5_putIn (l : Launch) (D : va_G) (y : Nat → ClassId) (z : Nat → Nat) (a : Nat → Nat) (rc : Int) (is_ : Int → Int) (pd : Int → Int) (pn : Int) (ho : Int → Int) (eh : Int → Int) (mv : Int → Int) (at_ : Int) (tk : Int) (fs : Int) (lt : Int) (ea : Int) (stf : Int → Int) (kpf : Int → Int) (hsf : Int → Int) (slf : Int → Int) (x1 : Int) (x2 : Int) (x3 : Int) (x4 : Int) (x5 : Int) (fu : Nat) (rr : Int) (q_stf : Int → Int) (h_ : f_X5_putIn fu stf x1 x2 x3 x4 x5 = some (rr, q_stf)) : jCI l D y z yX5_putIn wsX5_putIn rm_X5_putIn [.ref (a 0), .int (jI x1), .int (jI x2), .int (jI x3), .int (jI x4), .int (jI x5)] [(wMo y a rc is_ pd pn ho eh mv at_ tk fs lt ea), (wAr y (a 6) 205 stf), (wAr y (a 7) 205 kpf), (wAr y (a 8) 1230 hsf), (wAr y (a 9) 410 slf)] [(wMo y a rc is_ pd pn ho eh mv at_ tk fs lt ea), (wAr y (a 6) 205 q_stf), (wAr y (a 7) 205 kpf), (wAr y (a 8) 1230 hsf), (wAr y (a 9) 410 slf)] rr := by
  intro sz
  refine jmet (Qc := (fun A => va_Qi (fun v (_ : Unit) => v = jI rr) (jB D A [(wMo y a rc is_ pd pn ho eh mv at_ tk fs lt ea), (wAr y (a 6) 205 q_stf), (wAr y (a 7) 205 kpf), (wAr y (a 8) 1230 hsf), (wAr y (a 9) 410 slf)]) A)) (cc := cX5_putIn) (maxL := 7) (ret := (some .int)) (own := RX5) (by decide) rfl (Nat.le_of_ble_eq_true rfl) rfl (fun p e s m R args below meth c A ls hR_ hargs_ hx_ hb_ hr_ hlocks_ hml_ hown_ hts_ hname_ hsz_ hP_ hD_ hA_ hM_ hl_ => ?_)
  have key_ : ∀ Q : State → Prop, (∀ (v9 : Int) (stf9 : Int → Int) (H : Heap) (locs : List Loc) (pc : Nat) (ls : Array Slot), some (v9, stf9) = some (rr, q_stf) → decode cX5_putIn pc = .ok (.ireturn, 1) → va_P D vwCl [(wMo y a rc is_ pd pn ho eh mv at_ tk fs lt ea), (wAr y (a 6) 205 stf9), (wAr y (a 7) 205 kpf), (wAr y (a 8) 1230 hsf), (wAr y (a 9) 410 slf)].flatten H → va_D A [(wMo y a rc is_ pd pn ho eh mv at_ tk fs lt ea), (wAr y (a 6) 205 stf9), (wAr y (a 7) 205 kpf), (wAr y (a 8) 1230 hsf), (wAr y (a 9) 410 slf)].flatten → va_S A s.heap H locs → W p l e R s m args below meth c H locs 0 0 Q (F0 m pc ls [.int (jI v9)])) → W p l e R s m args below meth c s.heap [] 0 0 Q (F0 m 0 ls []) := by
    intro Q hE_
    have hS_ : va_S A s.heap s.heap [] := va_S.rf
    have hl_ : lv_has ls 7 [(0, .ref (a 0)), (1, .int (jI x1)), (2, .int (jI x2)), (3, .int (jI x3)), (4, .int (jI x4)), (5, .int (jI x5))] := hl_
    have hin_ : ∀ w ∈ u_ws RX5 TX5 16, w ∈ wsX5_putIn := by decide +kernel
    unfold f_X5_putIn at h_
    refine lv_aload_n hx_ hb_ dX5_putIn_0 rfl (lv_at hl_ 0 rfl) ?_
    refine va_get (D := D) (ci := 5) (v := .ref (a 6)) (C := RX5) (T := TX5) (N := 16) hx_ hb_ hts_ hin_ hown_ hM_.1 hP_ 0 rfl rfl 0 (by decide) (hts_ (.fieldLink RX5 7 "MusicHolesModel" "state" "[I") (by decide +kernel)) (fun _ h9_ => h9_) rfl dX5_putIn_1 ?_
    refine lv_iconst (v := jI 4) hx_ hb_ dX5_putIn_4 (by decide +kernel) ?_
    refine jx_iald hx_ hb_ hM_ hP_ 6 0 rfl rfl rfl (Nat.le_of_ble_eq_true rfl) h_ dX5_putIn_5 (fun h_ => ?_)
    refine lv_istore (lv' := [(6, .int (jI (stf 4))), (0, .ref (a 0)), (1, .int (jI x1)), (2, .int (jI x2)), (3, .int (jI x3)), (4, .int (jI x4)), (5, .int (jI x5))]) hx_ hb_ dX5_putIn_6 hl_ (by decide) rfl (fun ls hl_ => ?_)
    have hX46 : ∀ (stf_m1 : Int → Int) (v2 : Int) (H : Heap) (locs : List Loc) (ls : Array Slot), f_X5_putIn_X46 fu x1 x2 x3 x4 x5 stf_m1 v2 = some (rr, q_stf) → va_P D vwCl [(wMo y a rc is_ pd pn ho eh mv at_ tk fs lt ea), (wAr y (a 6) 205 stf_m1), (wAr y (a 7) 205 kpf), (wAr y (a 8) 1230 hsf), (wAr y (a 9) 410 slf)].flatten H → va_D A [(wMo y a rc is_ pd pn ho eh mv at_ tk fs lt ea), (wAr y (a 6) 205 stf_m1), (wAr y (a 7) 205 kpf), (wAr y (a 8) 1230 hsf), (wAr y (a 9) 410 slf)].flatten → va_S A s.heap H locs → lv_has ls 7 [(0, .ref (a 0)), (1, .int (jI x1)), (2, .int (jI x2)), (3, .int (jI x3)), (4, .int (jI x4)), (5, .int (jI x5)), (6, .int (jI v2))] → W p l e R s m args below meth c H locs 0 0 Q (F0 m 46 ls []) := by
      intro stf_m1 v2 H locs ls h_ hP_ hD_ hS_ hl_
      unfold f_X5_putIn_X46 at h_
      refine lv_aload_n hx_ hb_ dX5_putIn_46 rfl (lv_at hl_ 0 rfl) ?_
      refine lv_iload hx_ hb_ dX5_putIn_47 (lv_at hl_ 6 rfl) ?_
      refine lv_iconst (v := jI 0) hx_ hb_ dX5_putIn_49 (by decide +kernel) ?_
      refine lv_iload_n hx_ hb_ dX5_putIn_50 rfl (lv_at hl_ 1 rfl) ?_
      obtain ⟨stf_m3, hstf_m3, h_⟩ := jb_i h_
      refine jx_cvv (rv := 0) (wr := []) (cw := [(wMo y a rc is_ pd pn ho eh mv at_ tk fs lt ea), (wAr y (a 6) 205 stf_m1), (wAr y (a 7) 205 kpf), (wAr y (a 8) 1230 hsf), (wAr y (a 9) 410 slf)]) (cw1 := [(wMo y a rc is_ pd pn ho eh mv at_ tk fs lt ea), (wAr y (a 6) 205 stf_m3), (wAr y (a 7) 205 kpf), (wAr y (a 8) 1230 hsf), (wAr y (a 9) 410 slf)]) (cs1 := [(wMo y a rc is_ pd pn ho eh mv at_ tk fs lt ea), (wAr y (a 6) 205 stf_m3), (wAr y (a 7) 205 kpf), (wAr y (a 8) 1230 hsf), (wAr y (a 9) 410 slf)]) (As := [.int (jI v2), .int (jI 0), .int (jI x1)]) (rest := []) ⟨hx_, hb_, hml_, hown_, hts_⟩ hM_ hP_ hD_ hS_ hA_ (List.Perm.refl _) (List.Perm.refl _) (c_X5_setPart l D y z a rc is_ pd pn ho eh mv at_ tk fs lt ea stf_m1 kpf hsf slf v2 0 x1 fu stf_m3 hstf_m3) 3 gX5_putIn_X5_setPart rfl ⟨rfl, rfl⟩ (by decide +kernel) ⟨by rw [hR_]; exact Nat.le_of_ble_eq_true rfl, by rw [hR_]; exact Nat.le_of_ble_eq_true rfl⟩ 0 5 rfl rfl rfl rfl rfl hl_.1 (Nat.le_of_ble_eq_true rfl) dX5_putIn_51 ⟨Nat.zero_le _, Nat.zero_le _⟩ (fun H locs hP_ hD_ hS_ => ?_)
      refine lv_aload_n hx_ hb_ dX5_putIn_54 rfl (lv_at hl_ 0 rfl) ?_
      refine lv_iload hx_ hb_ dX5_putIn_55 (lv_at hl_ 6 rfl) ?_
      refine lv_iconst (v := jI 1) hx_ hb_ dX5_putIn_57 (by decide +kernel) ?_
      refine lv_iload_n hx_ hb_ dX5_putIn_58 rfl (lv_at hl_ 2 rfl) ?_
      obtain ⟨stf_m4, hstf_m4, h_⟩ := jb_i h_
      refine jx_cvv (rv := 0) (wr := []) (cw := [(wMo y a rc is_ pd pn ho eh mv at_ tk fs lt ea), (wAr y (a 6) 205 stf_m3), (wAr y (a 7) 205 kpf), (wAr y (a 8) 1230 hsf), (wAr y (a 9) 410 slf)]) (cw1 := [(wMo y a rc is_ pd pn ho eh mv at_ tk fs lt ea), (wAr y (a 6) 205 stf_m4), (wAr y (a 7) 205 kpf), (wAr y (a 8) 1230 hsf), (wAr y (a 9) 410 slf)]) (cs1 := [(wMo y a rc is_ pd pn ho eh mv at_ tk fs lt ea), (wAr y (a 6) 205 stf_m4), (wAr y (a 7) 205 kpf), (wAr y (a 8) 1230 hsf), (wAr y (a 9) 410 slf)]) (As := [.int (jI v2), .int (jI 1), .int (jI x2)]) (rest := []) ⟨hx_, hb_, hml_, hown_, hts_⟩ hM_ hP_ hD_ hS_ hA_ (List.Perm.refl _) (List.Perm.refl _) (c_X5_setPart l D y z a rc is_ pd pn ho eh mv at_ tk fs lt ea stf_m3 kpf hsf slf v2 1 x2 fu stf_m4 hstf_m4) 3 gX5_putIn_X5_setPart rfl ⟨rfl, rfl⟩ (by decide +kernel) ⟨by rw [hR_]; exact Nat.le_of_ble_eq_true rfl, by rw [hR_]; exact Nat.le_of_ble_eq_true rfl⟩ 0 5 rfl rfl rfl rfl rfl hl_.1 (Nat.le_of_ble_eq_true rfl) dX5_putIn_59 ⟨Nat.zero_le _, Nat.zero_le _⟩ (fun H locs hP_ hD_ hS_ => ?_)
      refine lv_aload_n hx_ hb_ dX5_putIn_62 rfl (lv_at hl_ 0 rfl) ?_
      refine lv_iload hx_ hb_ dX5_putIn_63 (lv_at hl_ 6 rfl) ?_
      refine lv_iconst (v := jI 2) hx_ hb_ dX5_putIn_65 (by decide +kernel) ?_
      refine lv_iload_n hx_ hb_ dX5_putIn_66 rfl (lv_at hl_ 3 rfl) ?_
      obtain ⟨stf_m5, hstf_m5, h_⟩ := jb_i h_
      refine jx_cvv (rv := 0) (wr := []) (cw := [(wMo y a rc is_ pd pn ho eh mv at_ tk fs lt ea), (wAr y (a 6) 205 stf_m4), (wAr y (a 7) 205 kpf), (wAr y (a 8) 1230 hsf), (wAr y (a 9) 410 slf)]) (cw1 := [(wMo y a rc is_ pd pn ho eh mv at_ tk fs lt ea), (wAr y (a 6) 205 stf_m5), (wAr y (a 7) 205 kpf), (wAr y (a 8) 1230 hsf), (wAr y (a 9) 410 slf)]) (cs1 := [(wMo y a rc is_ pd pn ho eh mv at_ tk fs lt ea), (wAr y (a 6) 205 stf_m5), (wAr y (a 7) 205 kpf), (wAr y (a 8) 1230 hsf), (wAr y (a 9) 410 slf)]) (As := [.int (jI v2), .int (jI 2), .int (jI x3)]) (rest := []) ⟨hx_, hb_, hml_, hown_, hts_⟩ hM_ hP_ hD_ hS_ hA_ (List.Perm.refl _) (List.Perm.refl _) (c_X5_setPart l D y z a rc is_ pd pn ho eh mv at_ tk fs lt ea stf_m4 kpf hsf slf v2 2 x3 fu stf_m5 hstf_m5) 3 gX5_putIn_X5_setPart rfl ⟨rfl, rfl⟩ (by decide +kernel) ⟨by rw [hR_]; exact Nat.le_of_ble_eq_true rfl, by rw [hR_]; exact Nat.le_of_ble_eq_true rfl⟩ 0 5 rfl rfl rfl rfl rfl hl_.1 (Nat.le_of_ble_eq_true rfl) dX5_putIn_67 ⟨Nat.zero_le _, Nat.zero_le _⟩ (fun H locs hP_ hD_ hS_ => ?_)
      refine lv_aload_n hx_ hb_ dX5_putIn_70 rfl (lv_at hl_ 0 rfl) ?_
      refine lv_iload hx_ hb_ dX5_putIn_71 (lv_at hl_ 6 rfl) ?_
      refine lv_iconst (v := jI 3) hx_ hb_ dX5_putIn_73 (by decide +kernel) ?_
      refine lv_iload hx_ hb_ dX5_putIn_74 (lv_at hl_ 4 rfl) ?_
      obtain ⟨stf_m6, hstf_m6, h_⟩ := jb_i h_
      refine jx_cvv (rv := 0) (wr := []) (cw := [(wMo y a rc is_ pd pn ho eh mv at_ tk fs lt ea), (wAr y (a 6) 205 stf_m5), (wAr y (a 7) 205 kpf), (wAr y (a 8) 1230 hsf), (wAr y (a 9) 410 slf)]) (cw1 := [(wMo y a rc is_ pd pn ho eh mv at_ tk fs lt ea), (wAr y (a 6) 205 stf_m6), (wAr y (a 7) 205 kpf), (wAr y (a 8) 1230 hsf), (wAr y (a 9) 410 slf)]) (cs1 := [(wMo y a rc is_ pd pn ho eh mv at_ tk fs lt ea), (wAr y (a 6) 205 stf_m6), (wAr y (a 7) 205 kpf), (wAr y (a 8) 1230 hsf), (wAr y (a 9) 410 slf)]) (As := [.int (jI v2), .int (jI 3), .int (jI x4)]) (rest := []) ⟨hx_, hb_, hml_, hown_, hts_⟩ hM_ hP_ hD_ hS_ hA_ (List.Perm.refl _) (List.Perm.refl _) (c_X5_setPart l D y z a rc is_ pd pn ho eh mv at_ tk fs lt ea stf_m5 kpf hsf slf v2 3 x4 fu stf_m6 hstf_m6) 3 gX5_putIn_X5_setPart rfl ⟨rfl, rfl⟩ (by decide +kernel) ⟨by rw [hR_]; exact Nat.le_of_ble_eq_true rfl, by rw [hR_]; exact Nat.le_of_ble_eq_true rfl⟩ 0 5 rfl rfl rfl rfl rfl hl_.1 (Nat.le_of_ble_eq_true rfl) dX5_putIn_76 ⟨Nat.zero_le _, Nat.zero_le _⟩ (fun H locs hP_ hD_ hS_ => ?_)
      refine lv_aload_n hx_ hb_ dX5_putIn_79 rfl (lv_at hl_ 0 rfl) ?_
      refine lv_iload hx_ hb_ dX5_putIn_80 (lv_at hl_ 6 rfl) ?_
      refine lv_iconst (v := jI 4) hx_ hb_ dX5_putIn_82 (by decide +kernel) ?_
      refine lv_iload hx_ hb_ dX5_putIn_83 (lv_at hl_ 5 rfl) ?_
      obtain ⟨stf_m7, hstf_m7, h_⟩ := jb_i h_
      refine jx_cvv (rv := 0) (wr := []) (cw := [(wMo y a rc is_ pd pn ho eh mv at_ tk fs lt ea), (wAr y (a 6) 205 stf_m6), (wAr y (a 7) 205 kpf), (wAr y (a 8) 1230 hsf), (wAr y (a 9) 410 slf)]) (cw1 := [(wMo y a rc is_ pd pn ho eh mv at_ tk fs lt ea), (wAr y (a 6) 205 stf_m7), (wAr y (a 7) 205 kpf), (wAr y (a 8) 1230 hsf), (wAr y (a 9) 410 slf)]) (cs1 := [(wMo y a rc is_ pd pn ho eh mv at_ tk fs lt ea), (wAr y (a 6) 205 stf_m7), (wAr y (a 7) 205 kpf), (wAr y (a 8) 1230 hsf), (wAr y (a 9) 410 slf)]) (As := [.int (jI v2), .int (jI 4), .int (jI x5)]) (rest := []) ⟨hx_, hb_, hml_, hown_, hts_⟩ hM_ hP_ hD_ hS_ hA_ (List.Perm.refl _) (List.Perm.refl _) (c_X5_setPart l D y z a rc is_ pd pn ho eh mv at_ tk fs lt ea stf_m6 kpf hsf slf v2 4 x5 fu stf_m7 hstf_m7) 3 gX5_putIn_X5_setPart rfl ⟨rfl, rfl⟩ (by decide +kernel) ⟨by rw [hR_]; exact Nat.le_of_ble_eq_true rfl, by rw [hR_]; exact Nat.le_of_ble_eq_true rfl⟩ 0 5 rfl rfl rfl rfl rfl hl_.1 (Nat.le_of_ble_eq_true rfl) dX5_putIn_85 ⟨Nat.zero_le _, Nat.zero_le _⟩ (fun H locs hP_ hD_ hS_ => ?_)
      refine lv_aload_n hx_ hb_ dX5_putIn_88 rfl (lv_at hl_ 0 rfl) ?_
      refine va_get (D := D) (ci := 5) (v := .ref (a 6)) (C := RX5) (T := TX5) (N := 16) hx_ hb_ hts_ hin_ hown_ hM_.1 hP_ 0 rfl rfl 0 (by decide) (hts_ (.fieldLink RX5 7 "MusicHolesModel" "state" "[I") (by decide +kernel)) (fun _ h9_ => h9_) rfl dX5_putIn_89 ?_
      refine lv_iconst (v := jI 4) hx_ hb_ dX5_putIn_92 (by decide +kernel) ?_
      refine lv_dup2_11 hx_ hb_ dX5_putIn_93 rfl rfl ?_
      refine jx_iald hx_ hb_ hM_ hP_ 6 0 rfl rfl rfl (Nat.le_of_ble_eq_true rfl) h_ dX5_putIn_94 (fun h_ => ?_)
      refine lv_iconst (v := jI 1) hx_ hb_ dX5_putIn_95 (by decide +kernel) ?_
      refine jx_iadd hx_ hb_ dX5_putIn_96 ?_
      refine jx_iast hx_ hb_ hM_ hP_ hD_ hS_ 6 0 rfl rfl rfl (Nat.le_of_ble_eq_true rfl) h_ dX5_putIn_97 (fun H locs h_ hP_ hD_ hS_ => ?_)
      have hP_ : va_P D vwCl [(wMo y a rc is_ pd pn ho eh mv at_ tk fs lt ea), (wAr y (a 6) 205 (uI stf_m7 4 ((stf_m7 4) + 1))), (wAr y (a 7) 205 kpf), (wAr y (a 8) 1230 hsf), (wAr y (a 9) 410 slf)].flatten H := hP_
      have hD_ : va_D A [(wMo y a rc is_ pd pn ho eh mv at_ tk fs lt ea), (wAr y (a 6) 205 (uI stf_m7 4 ((stf_m7 4) + 1))), (wAr y (a 7) 205 kpf), (wAr y (a 8) 1230 hsf), (wAr y (a 9) 410 slf)].flatten := hD_
      refine lv_iload hx_ hb_ dX5_putIn_98 (lv_at hl_ 6 rfl) ?_
      exact hE_ _ _ _ _ _ _ h_ dX5_putIn_100 hP_ hD_ hS_
    have hL8 : ∀ n8 : Nat, ∀ (stf_m8 : Int → Int) (v9 : Int) (H : Heap) (locs : List Loc) (ls : Array Slot), f_X5_putIn_L8 fu x1 x2 (f_X5_putIn_X46 fu x1 x2 x3 x4 x5) n8 stf_m8 v9 = some (rr, q_stf) → va_P D vwCl [(wMo y a rc is_ pd pn ho eh mv at_ tk fs lt ea), (wAr y (a 6) 205 stf_m8), (wAr y (a 7) 205 kpf), (wAr y (a 8) 1230 hsf), (wAr y (a 9) 410 slf)].flatten H → va_D A [(wMo y a rc is_ pd pn ho eh mv at_ tk fs lt ea), (wAr y (a 6) 205 stf_m8), (wAr y (a 7) 205 kpf), (wAr y (a 8) 1230 hsf), (wAr y (a 9) 410 slf)].flatten → va_S A s.heap H locs → lv_has ls 7 [(0, .ref (a 0)), (1, .int (jI x1)), (2, .int (jI x2)), (3, .int (jI x3)), (4, .int (jI x4)), (5, .int (jI x5)), (6, .int (jI v9))] → W p l e R s m args below meth c H locs 0 0 Q (F0 m 8 ls []) := by
      intro n8
      induction n8 with
      | zero => intro _ _ H locs ls h_; have h_ : (none : Option (Int × (Int → Int))) = some (rr, q_stf) := h_; cases h_
      | succ n8 ih8 =>
        intro stf_m8 v9 H locs ls h_ hP_ hD_ hS_ hl_
        replace h_ : f_X5_putIn_L8_b fu x1 x2 (f_X5_putIn_X46 fu x1 x2 x3 x4 x5) (f_X5_putIn_L8 fu x1 x2 (f_X5_putIn_X46 fu x1 x2 x3 x4 x5) n8) stf_m8 v9 = some (rr, q_stf) := h_
        unfold f_X5_putIn_L8_b at h_
        refine lv_iload hx_ hb_ dX5_putIn_8 (lv_at hl_ 6 rfl) ?_
        refine jx_if_le (tgt := 46) hx_ hb_ h_ dX5_putIn_10 (by decide) (fun h_ => ?_) (fun h_ => ?_)
        · exact hX46 _ _ _ _ ls h_ hP_ hD_ hS_ (lv_sub hl_ [0, 1, 2, 3, 4, 5, 6] rfl)
        · refine lv_aload_n hx_ hb_ dX5_putIn_13 rfl (lv_at hl_ 0 rfl) ?_
          refine lv_iload hx_ hb_ dX5_putIn_14 (lv_at hl_ 6 rfl) ?_
          refine lv_iconst (v := jI 1) hx_ hb_ dX5_putIn_16 (by decide +kernel) ?_
          refine jx_isub hx_ hb_ dX5_putIn_17 ?_
          obtain ⟨v10, hv10, h_⟩ := jb_i h_
          refine jx_cvi (wr := []) (cw := [(wMo y a rc is_ pd pn ho eh mv at_ tk fs lt ea), (wAr y (a 6) 205 stf_m8), (wAr y (a 7) 205 kpf), (wAr y (a 8) 1230 hsf), (wAr y (a 9) 410 slf)]) (cw1 := [(wMo y a rc is_ pd pn ho eh mv at_ tk fs lt ea), (wAr y (a 6) 205 stf_m8), (wAr y (a 7) 205 kpf), (wAr y (a 8) 1230 hsf), (wAr y (a 9) 410 slf)]) (cs1 := [(wMo y a rc is_ pd pn ho eh mv at_ tk fs lt ea), (wAr y (a 6) 205 stf_m8), (wAr y (a 7) 205 kpf), (wAr y (a 8) 1230 hsf), (wAr y (a 9) 410 slf)]) (As := [.int (jI (v9 - 1))]) (rest := []) ⟨hx_, hb_, hml_, hown_, hts_⟩ hM_ hP_ hD_ hS_ hA_ (List.Perm.refl _) (List.Perm.refl _) (c_X5_orderOf l D y z a rc is_ pd pn ho eh mv at_ tk fs lt ea stf_m8 kpf hsf slf (v9 - 1) fu v10 hv10) 1 gX5_putIn_X5_orderOf rfl ⟨rfl, rfl⟩ (by decide +kernel) ⟨by rw [hR_]; exact Nat.le_of_ble_eq_true rfl, by rw [hR_]; exact Nat.le_of_ble_eq_true rfl⟩ 0 5 rfl rfl rfl rfl rfl hl_.1 (Nat.le_of_ble_eq_true rfl) dX5_putIn_18 ⟨Nat.zero_le _, Nat.zero_le _⟩ (fun H locs hP_ hD_ hS_ => ?_)
          refine lv_bipush (v := jI 12) hx_ hb_ dX5_putIn_21 (by decide +kernel) ?_
          refine lv_iload_n hx_ hb_ dX5_putIn_23 rfl (lv_at hl_ 2 rfl) ?_
          refine jx_imul hx_ hb_ dX5_putIn_24 ?_
          refine lv_iload_n hx_ hb_ dX5_putIn_25 rfl (lv_at hl_ 1 rfl) ?_
          refine jx_iadd hx_ hb_ dX5_putIn_26 ?_
          refine jx_icmp_le (tgt := 46) hx_ hb_ h_ dX5_putIn_27 (by decide) (fun h_ => ?_) (fun h_ => ?_)
          · exact hX46 _ _ _ _ ls h_ hP_ hD_ hS_ (lv_sub hl_ [0, 1, 2, 3, 4, 5, 6] rfl)
          · refine lv_aload_n hx_ hb_ dX5_putIn_30 rfl (lv_at hl_ 0 rfl) ?_
            refine lv_iload hx_ hb_ dX5_putIn_31 (lv_at hl_ 6 rfl) ?_
            refine lv_iconst (v := jI 1) hx_ hb_ dX5_putIn_33 (by decide +kernel) ?_
            refine jx_isub hx_ hb_ dX5_putIn_34 ?_
            refine lv_iload hx_ hb_ dX5_putIn_35 (lv_at hl_ 6 rfl) ?_
            obtain ⟨stf_m11, hstf_m11, h_⟩ := jb_i h_
            refine jx_cvv (rv := 0) (wr := []) (cw := [(wMo y a rc is_ pd pn ho eh mv at_ tk fs lt ea), (wAr y (a 6) 205 stf_m8), (wAr y (a 7) 205 kpf), (wAr y (a 8) 1230 hsf), (wAr y (a 9) 410 slf)]) (cw1 := [(wMo y a rc is_ pd pn ho eh mv at_ tk fs lt ea), (wAr y (a 6) 205 stf_m11), (wAr y (a 7) 205 kpf), (wAr y (a 8) 1230 hsf), (wAr y (a 9) 410 slf)]) (cs1 := [(wMo y a rc is_ pd pn ho eh mv at_ tk fs lt ea), (wAr y (a 6) 205 stf_m11), (wAr y (a 7) 205 kpf), (wAr y (a 8) 1230 hsf), (wAr y (a 9) 410 slf)]) (As := [.int (jI (v9 - 1)), .int (jI v9)]) (rest := []) ⟨hx_, hb_, hml_, hown_, hts_⟩ hM_ hP_ hD_ hS_ hA_ (List.Perm.refl _) (List.Perm.refl _) (c_X5_move l D y z a rc is_ pd pn ho eh mv at_ tk fs lt ea stf_m8 kpf hsf slf (v9 - 1) v9 fu stf_m11 hstf_m11) 2 gX5_putIn_X5_move rfl ⟨rfl, rfl⟩ (by decide +kernel) ⟨by rw [hR_]; exact Nat.le_of_ble_eq_true rfl, by rw [hR_]; exact Nat.le_of_ble_eq_true rfl⟩ 0 5 rfl rfl rfl rfl rfl hl_.1 (Nat.le_of_ble_eq_true rfl) dX5_putIn_37 ⟨Nat.zero_le _, Nat.zero_le _⟩ (fun H locs hP_ hD_ hS_ => ?_)
            refine lv_iinc (v := jI (v9 + (-1))) (lv' := [(6, .int (jI (v9 + (-1)))), (0, .ref (a 0)), (1, .int (jI x1)), (2, .int (jI x2)), (3, .int (jI x3)), (4, .int (jI x4)), (5, .int (jI x5))]) hx_ hb_ dX5_putIn_40 hl_ (k := 6) rfl (jI_add _ _) (by decide) rfl (fun ls hl_ => ?_)
            refine lv_goto (tgt := 8) hx_ hb_ dX5_putIn_43 (by decide) ?_
            exact ih8 _ _ _ _ ls h_ hP_ hD_ hS_ (lv_sub hl_ [1, 2, 3, 4, 5, 6, 0] rfl)
    exact hL8 fu _ _ _ _ ls h_ hP_ hD_ hS_ (lv_sub hl_ [1, 2, 3, 4, 5, 6, 0] rfl)
  exact key_ _ (fun v9 stf9 H locs pc ls h9_ hdg_ hP_ hD_ hS_ => by cases h9_; exact jend_i hx_ hb_ hr_ hlocks_ hP_ hD_ hS_ hdg_)
def rm_X5_takeOut : Room := { frames := 2, cells := 0, slots := 0, locals := 46 }
set_option maxRecDepth 100000 in
set_option maxHeartbeats 8000000 in
theorem c_X5_takeOut (l : Launch) (D : va_G) (y : Nat → ClassId) (z : Nat → Nat) (a : Nat → Nat) (rc : Int) (is_ : Int → Int) (pd : Int → Int) (pn : Int) (ho : Int → Int) (eh : Int → Int) (mv : Int → Int) (at_ : Int) (tk : Int) (fs : Int) (lt : Int) (ea : Int) (stf : Int → Int) (kpf : Int → Int) (hsf : Int → Int) (slf : Int → Int) (x1 : Int) (fu : Nat) (q_stf : Int → Int) (h_ : f_X5_takeOut fu stf x1 = some q_stf) : jCV l D y z yX5_takeOut wsX5_takeOut rm_X5_takeOut [.ref (a 0), .int (jI x1)] [(wMo y a rc is_ pd pn ho eh mv at_ tk fs lt ea), (wAr y (a 6) 205 stf), (wAr y (a 7) 205 kpf), (wAr y (a 8) 1230 hsf), (wAr y (a 9) 410 slf)] [(wMo y a rc is_ pd pn ho eh mv at_ tk fs lt ea), (wAr y (a 6) 205 q_stf), (wAr y (a 7) 205 kpf), (wAr y (a 8) 1230 hsf), (wAr y (a 9) 410 slf)] := by
  intro sz
  refine jmet (Qc := (fun A => va_Qv (fun (_ : Unit) => True) (jB D A [(wMo y a rc is_ pd pn ho eh mv at_ tk fs lt ea), (wAr y (a 6) 205 q_stf), (wAr y (a 7) 205 kpf), (wAr y (a 8) 1230 hsf), (wAr y (a 9) 410 slf)]) A)) (cc := cX5_takeOut) (maxL := 3) (ret := none) (own := RX5) (by decide) rfl (Nat.le_of_ble_eq_true rfl) rfl (fun p e s m R args below meth c A ls hR_ hargs_ hx_ hb_ hr_ hlocks_ hml_ hown_ hts_ hname_ hsz_ hP_ hD_ hA_ hM_ hl_ => ?_)
  have key_ : ∀ Q : State → Prop, (∀ (stf9 : Int → Int) (H : Heap) (locs : List Loc) (pc : Nat) (ls : Array Slot), some stf9 = some q_stf → decode cX5_takeOut pc = .ok (.return_, 1) → va_P D vwCl [(wMo y a rc is_ pd pn ho eh mv at_ tk fs lt ea), (wAr y (a 6) 205 stf9), (wAr y (a 7) 205 kpf), (wAr y (a 8) 1230 hsf), (wAr y (a 9) 410 slf)].flatten H → va_D A [(wMo y a rc is_ pd pn ho eh mv at_ tk fs lt ea), (wAr y (a 6) 205 stf9), (wAr y (a 7) 205 kpf), (wAr y (a 8) 1230 hsf), (wAr y (a 9) 410 slf)].flatten → va_S A s.heap H locs → W p l e R s m args below meth c H locs 0 0 Q (F0 m pc ls [])) → W p l e R s m args below meth c s.heap [] 0 0 Q (F0 m 0 ls []) := by
    intro Q hE_
    have hS_ : va_S A s.heap s.heap [] := va_S.rf
    have hl_ : lv_has ls 3 [(0, .ref (a 0)), (1, .int (jI x1))] := hl_
    have hin_ : ∀ w ∈ u_ws RX5 TX5 16, w ∈ wsX5_takeOut := by decide +kernel
    unfold f_X5_takeOut at h_
    refine lv_iload_n hx_ hb_ dX5_takeOut_0 rfl (lv_at hl_ 1 rfl) ?_
    refine lv_istore_n (lv' := [(2, .int (jI x1)), (0, .ref (a 0)), (1, .int (jI x1))]) hx_ hb_ dX5_takeOut_1 rfl hl_ (by decide) rfl (fun ls hl_ => ?_)
    have hX28 : ∀ (stf_m1 : Int → Int) (H : Heap) (locs : List Loc) (ls : Array Slot), f_X5_takeOut_X28 fu stf_m1 = some q_stf → va_P D vwCl [(wMo y a rc is_ pd pn ho eh mv at_ tk fs lt ea), (wAr y (a 6) 205 stf_m1), (wAr y (a 7) 205 kpf), (wAr y (a 8) 1230 hsf), (wAr y (a 9) 410 slf)].flatten H → va_D A [(wMo y a rc is_ pd pn ho eh mv at_ tk fs lt ea), (wAr y (a 6) 205 stf_m1), (wAr y (a 7) 205 kpf), (wAr y (a 8) 1230 hsf), (wAr y (a 9) 410 slf)].flatten → va_S A s.heap H locs → lv_has ls 3 [(0, .ref (a 0))] → W p l e R s m args below meth c H locs 0 0 Q (F0 m 28 ls []) := by
      intro stf_m1 H locs ls h_ hP_ hD_ hS_ hl_
      unfold f_X5_takeOut_X28 at h_
      refine lv_aload_n hx_ hb_ dX5_takeOut_28 rfl (lv_at hl_ 0 rfl) ?_
      refine va_get (D := D) (ci := 5) (v := .ref (a 6)) (C := RX5) (T := TX5) (N := 16) hx_ hb_ hts_ hin_ hown_ hM_.1 hP_ 0 rfl rfl 0 (by decide) (hts_ (.fieldLink RX5 7 "MusicHolesModel" "state" "[I") (by decide +kernel)) (fun _ h9_ => h9_) rfl dX5_takeOut_29 ?_
      refine lv_iconst (v := jI 4) hx_ hb_ dX5_takeOut_32 (by decide +kernel) ?_
      refine lv_dup2_11 hx_ hb_ dX5_takeOut_33 rfl rfl ?_
      refine jx_iald hx_ hb_ hM_ hP_ 6 0 rfl rfl rfl (Nat.le_of_ble_eq_true rfl) h_ dX5_takeOut_34 (fun h_ => ?_)
      refine lv_iconst (v := jI 1) hx_ hb_ dX5_takeOut_35 (by decide +kernel) ?_
      refine jx_isub hx_ hb_ dX5_takeOut_36 ?_
      refine jx_iast hx_ hb_ hM_ hP_ hD_ hS_ 6 0 rfl rfl rfl (Nat.le_of_ble_eq_true rfl) h_ dX5_takeOut_37 (fun H locs h_ hP_ hD_ hS_ => ?_)
      have hP_ : va_P D vwCl [(wMo y a rc is_ pd pn ho eh mv at_ tk fs lt ea), (wAr y (a 6) 205 (uI stf_m1 4 ((stf_m1 4) - 1))), (wAr y (a 7) 205 kpf), (wAr y (a 8) 1230 hsf), (wAr y (a 9) 410 slf)].flatten H := hP_
      have hD_ : va_D A [(wMo y a rc is_ pd pn ho eh mv at_ tk fs lt ea), (wAr y (a 6) 205 (uI stf_m1 4 ((stf_m1 4) - 1))), (wAr y (a 7) 205 kpf), (wAr y (a 8) 1230 hsf), (wAr y (a 9) 410 slf)].flatten := hD_
      exact hE_ _ _ _ _ _ h_ dX5_takeOut_38 hP_ hD_ hS_
    have hL2 : ∀ n2 : Nat, ∀ (stf_m2 : Int → Int) (v3 : Int) (H : Heap) (locs : List Loc) (ls : Array Slot), f_X5_takeOut_L2 fu (f_X5_takeOut_X28 fu) n2 stf_m2 v3 = some q_stf → va_P D vwCl [(wMo y a rc is_ pd pn ho eh mv at_ tk fs lt ea), (wAr y (a 6) 205 stf_m2), (wAr y (a 7) 205 kpf), (wAr y (a 8) 1230 hsf), (wAr y (a 9) 410 slf)].flatten H → va_D A [(wMo y a rc is_ pd pn ho eh mv at_ tk fs lt ea), (wAr y (a 6) 205 stf_m2), (wAr y (a 7) 205 kpf), (wAr y (a 8) 1230 hsf), (wAr y (a 9) 410 slf)].flatten → va_S A s.heap H locs → lv_has ls 3 [(0, .ref (a 0)), (2, .int (jI v3))] → W p l e R s m args below meth c H locs 0 0 Q (F0 m 2 ls []) := by
      intro n2
      induction n2 with
      | zero => intro _ _ H locs ls h_; have h_ : (none : Option ((Int → Int))) = some q_stf := h_; cases h_
      | succ n2 ih2 =>
        intro stf_m2 v3 H locs ls h_ hP_ hD_ hS_ hl_
        replace h_ : f_X5_takeOut_L2_b fu (f_X5_takeOut_X28 fu) (f_X5_takeOut_L2 fu (f_X5_takeOut_X28 fu) n2) stf_m2 v3 = some q_stf := h_
        unfold f_X5_takeOut_L2_b at h_
        refine lv_iload_n hx_ hb_ dX5_takeOut_2 rfl (lv_at hl_ 1 rfl) ?_
        refine lv_aload_n hx_ hb_ dX5_takeOut_3 rfl (lv_at hl_ 0 rfl) ?_
        refine va_get (D := D) (ci := 5) (v := .ref (a 6)) (C := RX5) (T := TX5) (N := 16) hx_ hb_ hts_ hin_ hown_ hM_.1 hP_ 0 rfl rfl 0 (by decide) (hts_ (.fieldLink RX5 7 "MusicHolesModel" "state" "[I") (by decide +kernel)) (fun _ h9_ => h9_) rfl dX5_takeOut_4 ?_
        refine lv_iconst (v := jI 4) hx_ hb_ dX5_takeOut_7 (by decide +kernel) ?_
        refine jx_iald hx_ hb_ hM_ hP_ 6 0 rfl rfl rfl (Nat.le_of_ble_eq_true rfl) h_ dX5_takeOut_8 (fun h_ => ?_)
        refine lv_iconst (v := jI 1) hx_ hb_ dX5_takeOut_9 (by decide +kernel) ?_
        refine jx_isub hx_ hb_ dX5_takeOut_10 ?_
        refine jx_icmp_ge (tgt := 28) hx_ hb_ h_ dX5_takeOut_11 (by decide) (fun h_ => ?_) (fun h_ => ?_)
        · exact hX28 _ _ _ ls h_ hP_ hD_ hS_ (lv_sub hl_ [0] rfl)
        · refine lv_aload_n hx_ hb_ dX5_takeOut_14 rfl (lv_at hl_ 0 rfl) ?_
          refine lv_iload_n hx_ hb_ dX5_takeOut_15 rfl (lv_at hl_ 1 rfl) ?_
          refine lv_iconst (v := jI 1) hx_ hb_ dX5_takeOut_16 (by decide +kernel) ?_
          refine jx_iadd hx_ hb_ dX5_takeOut_17 ?_
          refine lv_iload_n hx_ hb_ dX5_takeOut_18 rfl (lv_at hl_ 1 rfl) ?_
          obtain ⟨stf_m4, hstf_m4, h_⟩ := jb_i h_
          refine jx_cvv (rv := 0) (wr := []) (cw := [(wMo y a rc is_ pd pn ho eh mv at_ tk fs lt ea), (wAr y (a 6) 205 stf_m2), (wAr y (a 7) 205 kpf), (wAr y (a 8) 1230 hsf), (wAr y (a 9) 410 slf)]) (cw1 := [(wMo y a rc is_ pd pn ho eh mv at_ tk fs lt ea), (wAr y (a 6) 205 stf_m4), (wAr y (a 7) 205 kpf), (wAr y (a 8) 1230 hsf), (wAr y (a 9) 410 slf)]) (cs1 := [(wMo y a rc is_ pd pn ho eh mv at_ tk fs lt ea), (wAr y (a 6) 205 stf_m4), (wAr y (a 7) 205 kpf), (wAr y (a 8) 1230 hsf), (wAr y (a 9) 410 slf)]) (As := [.int (jI (v3 + 1)), .int (jI v3)]) (rest := []) ⟨hx_, hb_, hml_, hown_, hts_⟩ hM_ hP_ hD_ hS_ hA_ (List.Perm.refl _) (List.Perm.refl _) (c_X5_move l D y z a rc is_ pd pn ho eh mv at_ tk fs lt ea stf_m2 kpf hsf slf (v3 + 1) v3 fu stf_m4 hstf_m4) 2 gX5_takeOut_X5_move rfl ⟨rfl, rfl⟩ (by decide +kernel) ⟨by rw [hR_]; exact Nat.le_of_ble_eq_true rfl, by rw [hR_]; exact Nat.le_of_ble_eq_true rfl⟩ 0 5 rfl rfl rfl rfl rfl hl_.1 (Nat.le_of_ble_eq_true rfl) dX5_takeOut_19 ⟨Nat.zero_le _, Nat.zero_le _⟩ (fun H locs hP_ hD_ hS_ => ?_)
          refine lv_iinc (v := jI (v3 + 1)) (lv' := [(2, .int (jI (v3 + 1))), (0, .ref (a 0))]) hx_ hb_ dX5_takeOut_22 hl_ (k := 1) rfl (jI_add _ _) (by decide) rfl (fun ls hl_ => ?_)
          refine lv_goto (tgt := 2) hx_ hb_ dX5_takeOut_25 (by decide) ?_
          exact ih2 _ _ _ _ ls h_ hP_ hD_ hS_ (lv_sub hl_ [1, 0] rfl)
    exact hL2 fu _ _ _ _ ls h_ hP_ hD_ hS_ (lv_sub hl_ [1, 0] rfl)
  exact key_ _ (fun stf9 H locs pc ls h9_ hdg_ hP_ hD_ hS_ => by cases h9_; exact jend_v hx_ hb_ hr_ hlocks_ hP_ hD_ hS_ hdg_)
def rm_X5_putInOrder : Room := { frames := 3, cells := 0, slots := 0, locals := 72 }
set_option maxRecDepth 100000 in
set_option maxHeartbeats 8000000 in
theorem c_X5_putInOrder (l : Launch) (D : va_G) (y : Nat → ClassId) (z : Nat → Nat) (a : Nat → Nat) (rc : Int) (is_ : Int → Int) (pd : Int → Int) (pn : Int) (ho : Int → Int) (eh : Int → Int) (mv : Int → Int) (at_ : Int) (tk : Int) (fs : Int) (lt : Int) (ea : Int) (stf : Int → Int) (kpf : Int → Int) (hsf : Int → Int) (slf : Int → Int)  (fu : Nat) (q_mv : Int → Int) (q_stf : Int → Int) (h_ : f_X5_putInOrder fu mv stf = some (q_mv, q_stf)) : jCV l D y z yX5_putInOrder wsX5_putInOrder rm_X5_putInOrder [.ref (a 0)] [(wMo y a rc is_ pd pn ho eh mv at_ tk fs lt ea), (wAr y (a 6) 205 stf), (wAr y (a 7) 205 kpf), (wAr y (a 8) 1230 hsf), (wAr y (a 9) 410 slf)] [(wMo y a rc is_ pd pn ho eh q_mv at_ tk fs lt ea), (wAr y (a 6) 205 q_stf), (wAr y (a 7) 205 kpf), (wAr y (a 8) 1230 hsf), (wAr y (a 9) 410 slf)] := by
  intro sz
  refine jmet (Qc := (fun A => va_Qv (fun (_ : Unit) => True) (jB D A [(wMo y a rc is_ pd pn ho eh q_mv at_ tk fs lt ea), (wAr y (a 6) 205 q_stf), (wAr y (a 7) 205 kpf), (wAr y (a 8) 1230 hsf), (wAr y (a 9) 410 slf)]) A)) (cc := cX5_putInOrder) (maxL := 4) (ret := none) (own := RX5) (by decide) rfl (Nat.le_of_ble_eq_true rfl) rfl (fun p e s m R args below meth c A ls hR_ hargs_ hx_ hb_ hr_ hlocks_ hml_ hown_ hts_ hname_ hsz_ hP_ hD_ hA_ hM_ hl_ => ?_)
  have key_ : ∀ Q : State → Prop, (∀ (mv9 : Int → Int) (stf9 : Int → Int) (H : Heap) (locs : List Loc) (pc : Nat) (ls : Array Slot), some (mv9, stf9) = some (q_mv, q_stf) → decode cX5_putInOrder pc = .ok (.return_, 1) → va_P D vwCl [(wMo y a rc is_ pd pn ho eh mv9 at_ tk fs lt ea), (wAr y (a 6) 205 stf9), (wAr y (a 7) 205 kpf), (wAr y (a 8) 1230 hsf), (wAr y (a 9) 410 slf)].flatten H → va_D A [(wMo y a rc is_ pd pn ho eh mv9 at_ tk fs lt ea), (wAr y (a 6) 205 stf9), (wAr y (a 7) 205 kpf), (wAr y (a 8) 1230 hsf), (wAr y (a 9) 410 slf)].flatten → va_S A s.heap H locs → W p l e R s m args below meth c H locs 0 0 Q (F0 m pc ls [])) → W p l e R s m args below meth c s.heap [] 0 0 Q (F0 m 0 ls []) := by
    intro Q hE_
    have hS_ : va_S A s.heap s.heap [] := va_S.rf
    have hl_ : lv_has ls 4 [(0, .ref (a 0))] := hl_
    have hin_ : ∀ w ∈ u_ws RX5 TX5 16, w ∈ wsX5_putInOrder := by decide +kernel
    unfold f_X5_putInOrder at h_
    refine lv_aload_n hx_ hb_ dX5_putInOrder_0 rfl (lv_at hl_ 0 rfl) ?_
    refine va_get (D := D) (ci := 5) (v := .ref (a 6)) (C := RX5) (T := TX5) (N := 16) hx_ hb_ hts_ hin_ hown_ hM_.1 hP_ 0 rfl rfl 0 (by decide) (hts_ (.fieldLink RX5 7 "MusicHolesModel" "state" "[I") (by decide +kernel)) (fun _ h9_ => h9_) rfl dX5_putInOrder_1 ?_
    refine lv_iconst (v := jI 4) hx_ hb_ dX5_putInOrder_4 (by decide +kernel) ?_
    refine jx_iald hx_ hb_ hM_ hP_ 6 0 rfl rfl rfl (Nat.le_of_ble_eq_true rfl) h_ dX5_putInOrder_5 (fun h_ => ?_)
    refine lv_istore_n (lv' := [(1, .int (jI (stf 4))), (0, .ref (a 0))]) hx_ hb_ dX5_putInOrder_6 rfl hl_ (by decide) rfl (fun ls hl_ => ?_)
    refine lv_aload_n hx_ hb_ dX5_putInOrder_7 rfl (lv_at hl_ 1 rfl) ?_
    refine va_get (D := D) (ci := 5) (v := .ref (a 6)) (C := RX5) (T := TX5) (N := 16) hx_ hb_ hts_ hin_ hown_ hM_.1 hP_ 0 rfl rfl 0 (by decide) (hts_ (.fieldLink RX5 7 "MusicHolesModel" "state" "[I") (by decide +kernel)) (fun _ h9_ => h9_) rfl dX5_putInOrder_8 ?_
    refine lv_iconst (v := jI 4) hx_ hb_ dX5_putInOrder_11 (by decide +kernel) ?_
    refine lv_iconst (v := jI 0) hx_ hb_ dX5_putInOrder_12 (by decide +kernel) ?_
    refine jx_iast hx_ hb_ hM_ hP_ hD_ hS_ 6 0 rfl rfl rfl (Nat.le_of_ble_eq_true rfl) h_ dX5_putInOrder_13 (fun H locs h_ hP_ hD_ hS_ => ?_)
    have hP_ : va_P D vwCl [(wMo y a rc is_ pd pn ho eh mv at_ tk fs lt ea), (wAr y (a 6) 205 (uI stf 4 0)), (wAr y (a 7) 205 kpf), (wAr y (a 8) 1230 hsf), (wAr y (a 9) 410 slf)].flatten H := hP_
    have hD_ : va_D A [(wMo y a rc is_ pd pn ho eh mv at_ tk fs lt ea), (wAr y (a 6) 205 (uI stf 4 0)), (wAr y (a 7) 205 kpf), (wAr y (a 8) 1230 hsf), (wAr y (a 9) 410 slf)].flatten := hD_
    refine lv_iconst (v := jI 0) hx_ hb_ dX5_putInOrder_14 (by decide +kernel) ?_
    refine lv_istore_n (lv' := [(2, .int (jI 0)), (1, .int (jI (stf 4))), (0, .ref (a 0))]) hx_ hb_ dX5_putInOrder_15 rfl hl_ (by decide) rfl (fun ls hl_ => ?_)
    have hX87 : ∀ (mv_m1 : Int → Int) (stf_m2 : Int → Int) (H : Heap) (locs : List Loc) (ls : Array Slot), f_X5_putInOrder_X87 fu mv_m1 stf_m2 = some (q_mv, q_stf) → va_P D vwCl [(wMo y a rc is_ pd pn ho eh mv_m1 at_ tk fs lt ea), (wAr y (a 6) 205 stf_m2), (wAr y (a 7) 205 kpf), (wAr y (a 8) 1230 hsf), (wAr y (a 9) 410 slf)].flatten H → va_D A [(wMo y a rc is_ pd pn ho eh mv_m1 at_ tk fs lt ea), (wAr y (a 6) 205 stf_m2), (wAr y (a 7) 205 kpf), (wAr y (a 8) 1230 hsf), (wAr y (a 9) 410 slf)].flatten → va_S A s.heap H locs → lv_has ls 4 [] → W p l e R s m args below meth c H locs 0 0 Q (F0 m 87 ls []) := by
      intro mv_m1 stf_m2 H locs ls h_ hP_ hD_ hS_ hl_
      unfold f_X5_putInOrder_X87 at h_
      exact hE_ _ _ _ _ _ _ h_ dX5_putInOrder_87 hP_ hD_ hS_
    have hL16 : ∀ n16 : Nat, ∀ (mv_m3 : Int → Int) (stf_m4 : Int → Int) (v5 : Int) (v6 : Int) (H : Heap) (locs : List Loc) (ls : Array Slot), f_X5_putInOrder_L16 fu (f_X5_putInOrder_X87 fu) n16 mv_m3 stf_m4 v5 v6 = some (q_mv, q_stf) → va_P D vwCl [(wMo y a rc is_ pd pn ho eh mv_m3 at_ tk fs lt ea), (wAr y (a 6) 205 stf_m4), (wAr y (a 7) 205 kpf), (wAr y (a 8) 1230 hsf), (wAr y (a 9) 410 slf)].flatten H → va_D A [(wMo y a rc is_ pd pn ho eh mv_m3 at_ tk fs lt ea), (wAr y (a 6) 205 stf_m4), (wAr y (a 7) 205 kpf), (wAr y (a 8) 1230 hsf), (wAr y (a 9) 410 slf)].flatten → va_S A s.heap H locs → lv_has ls 4 [(0, .ref (a 0)), (1, .int (jI v5)), (2, .int (jI v6))] → W p l e R s m args below meth c H locs 0 0 Q (F0 m 16 ls []) := by
      intro n16
      induction n16 with
      | zero => intro _ _ _ _ H locs ls h_; have h_ : (none : Option ((Int → Int) × (Int → Int))) = some (q_mv, q_stf) := h_; cases h_
      | succ n16 ih16 =>
        intro mv_m3 stf_m4 v5 v6 H locs ls h_ hP_ hD_ hS_ hl_
        replace h_ : f_X5_putInOrder_L16_b fu (f_X5_putInOrder_X87 fu) (f_X5_putInOrder_L16 fu (f_X5_putInOrder_X87 fu) n16) mv_m3 stf_m4 v5 v6 = some (q_mv, q_stf) := h_
        unfold f_X5_putInOrder_L16_b at h_
        refine lv_iload_n hx_ hb_ dX5_putInOrder_16 rfl (lv_at hl_ 2 rfl) ?_
        refine lv_iload_n hx_ hb_ dX5_putInOrder_17 rfl (lv_at hl_ 1 rfl) ?_
        refine jx_icmp_ge (tgt := 87) hx_ hb_ h_ dX5_putInOrder_18 (by decide) (fun h_ => ?_) (fun h_ => ?_)
        · exact hX87 _ _ _ _ ls h_ hP_ hD_ hS_ (lv_sub hl_ [] rfl)
        · refine lv_iconst (v := jI 0) hx_ hb_ dX5_putInOrder_21 (by decide +kernel) ?_
          refine lv_istore_n (lv' := [(3, .int (jI 0)), (0, .ref (a 0)), (1, .int (jI v5)), (2, .int (jI v6))]) hx_ hb_ dX5_putInOrder_22 rfl hl_ (by decide) rfl (fun ls hl_ => ?_)
          have hX46 : ∀ (mv_m7 : Int → Int) (stf_m8 : Int → Int) (H : Heap) (locs : List Loc) (ls : Array Slot), f_X5_putInOrder_X46 fu v5 v6 (f_X5_putInOrder_L16 fu (f_X5_putInOrder_X87 fu) n16) mv_m7 stf_m8 = some (q_mv, q_stf) → va_P D vwCl [(wMo y a rc is_ pd pn ho eh mv_m7 at_ tk fs lt ea), (wAr y (a 6) 205 stf_m8), (wAr y (a 7) 205 kpf), (wAr y (a 8) 1230 hsf), (wAr y (a 9) 410 slf)].flatten H → va_D A [(wMo y a rc is_ pd pn ho eh mv_m7 at_ tk fs lt ea), (wAr y (a 6) 205 stf_m8), (wAr y (a 7) 205 kpf), (wAr y (a 8) 1230 hsf), (wAr y (a 9) 410 slf)].flatten → va_S A s.heap H locs → lv_has ls 4 [(0, .ref (a 0)), (1, .int (jI v5)), (2, .int (jI v6))] → W p l e R s m args below meth c H locs 0 0 Q (F0 m 46 ls []) := by
            intro mv_m7 stf_m8 H locs ls h_ hP_ hD_ hS_ hl_
            unfold f_X5_putInOrder_X46 at h_
            refine lv_aload_n hx_ hb_ dX5_putInOrder_46 rfl (lv_at hl_ 0 rfl) ?_
            refine lv_aload_n hx_ hb_ dX5_putInOrder_47 rfl (lv_at hl_ 0 rfl) ?_
            refine va_get (D := D) (ci := 5) (v := .ref (a 5)) (C := RX5) (T := TX5) (N := 16) hx_ hb_ hts_ hin_ hown_ hM_.1 hP_ 0 rfl rfl 10 (by decide) (hts_ (.fieldLink RX5 34 "MusicHolesModel" "moved" "[I") (by decide +kernel)) (fun _ h9_ => h9_) rfl dX5_putInOrder_48 ?_
            refine lv_iconst (v := jI 0) hx_ hb_ dX5_putInOrder_51 (by decide +kernel) ?_
            refine jx_iald hx_ hb_ hM_ hP_ 5 0 rfl rfl rfl (Nat.le_of_ble_eq_true rfl) h_ dX5_putInOrder_52 (fun h_ => ?_)
            refine lv_aload_n hx_ hb_ dX5_putInOrder_53 rfl (lv_at hl_ 0 rfl) ?_
            refine va_get (D := D) (ci := 5) (v := .ref (a 5)) (C := RX5) (T := TX5) (N := 16) hx_ hb_ hts_ hin_ hown_ hM_.1 hP_ 0 rfl rfl 10 (by decide) (hts_ (.fieldLink RX5 34 "MusicHolesModel" "moved" "[I") (by decide +kernel)) (fun _ h9_ => h9_) rfl dX5_putInOrder_54 ?_
            refine lv_iconst (v := jI 1) hx_ hb_ dX5_putInOrder_57 (by decide +kernel) ?_
            refine jx_iald hx_ hb_ hM_ hP_ 5 0 rfl rfl rfl (Nat.le_of_ble_eq_true rfl) h_ dX5_putInOrder_58 (fun h_ => ?_)
            refine lv_aload_n hx_ hb_ dX5_putInOrder_59 rfl (lv_at hl_ 0 rfl) ?_
            refine va_get (D := D) (ci := 5) (v := .ref (a 5)) (C := RX5) (T := TX5) (N := 16) hx_ hb_ hts_ hin_ hown_ hM_.1 hP_ 0 rfl rfl 10 (by decide) (hts_ (.fieldLink RX5 34 "MusicHolesModel" "moved" "[I") (by decide +kernel)) (fun _ h9_ => h9_) rfl dX5_putInOrder_60 ?_
            refine lv_iconst (v := jI 2) hx_ hb_ dX5_putInOrder_63 (by decide +kernel) ?_
            refine jx_iald hx_ hb_ hM_ hP_ 5 0 rfl rfl rfl (Nat.le_of_ble_eq_true rfl) h_ dX5_putInOrder_64 (fun h_ => ?_)
            refine lv_aload_n hx_ hb_ dX5_putInOrder_65 rfl (lv_at hl_ 0 rfl) ?_
            refine va_get (D := D) (ci := 5) (v := .ref (a 5)) (C := RX5) (T := TX5) (N := 16) hx_ hb_ hts_ hin_ hown_ hM_.1 hP_ 0 rfl rfl 10 (by decide) (hts_ (.fieldLink RX5 34 "MusicHolesModel" "moved" "[I") (by decide +kernel)) (fun _ h9_ => h9_) rfl dX5_putInOrder_66 ?_
            refine lv_iconst (v := jI 3) hx_ hb_ dX5_putInOrder_69 (by decide +kernel) ?_
            refine jx_iald hx_ hb_ hM_ hP_ 5 0 rfl rfl rfl (Nat.le_of_ble_eq_true rfl) h_ dX5_putInOrder_70 (fun h_ => ?_)
            refine lv_aload_n hx_ hb_ dX5_putInOrder_71 rfl (lv_at hl_ 0 rfl) ?_
            refine va_get (D := D) (ci := 5) (v := .ref (a 5)) (C := RX5) (T := TX5) (N := 16) hx_ hb_ hts_ hin_ hown_ hM_.1 hP_ 0 rfl rfl 10 (by decide) (hts_ (.fieldLink RX5 34 "MusicHolesModel" "moved" "[I") (by decide +kernel)) (fun _ h9_ => h9_) rfl dX5_putInOrder_72 ?_
            refine lv_iconst (v := jI 4) hx_ hb_ dX5_putInOrder_75 (by decide +kernel) ?_
            refine jx_iald hx_ hb_ hM_ hP_ 5 0 rfl rfl rfl (Nat.le_of_ble_eq_true rfl) h_ dX5_putInOrder_76 (fun h_ => ?_)
            obtain ⟨v9, stf_m10, hv9, h_⟩ := jb2_i h_
            refine jx_cvi (wr := []) (cw := [(wMo y a rc is_ pd pn ho eh mv_m7 at_ tk fs lt ea), (wAr y (a 6) 205 stf_m8), (wAr y (a 7) 205 kpf), (wAr y (a 8) 1230 hsf), (wAr y (a 9) 410 slf)]) (cw1 := [(wMo y a rc is_ pd pn ho eh mv_m7 at_ tk fs lt ea), (wAr y (a 6) 205 stf_m10), (wAr y (a 7) 205 kpf), (wAr y (a 8) 1230 hsf), (wAr y (a 9) 410 slf)]) (cs1 := [(wMo y a rc is_ pd pn ho eh mv_m7 at_ tk fs lt ea), (wAr y (a 6) 205 stf_m10), (wAr y (a 7) 205 kpf), (wAr y (a 8) 1230 hsf), (wAr y (a 9) 410 slf)]) (As := [.int (jI (mv_m7 0)), .int (jI (mv_m7 1)), .int (jI (mv_m7 2)), .int (jI (mv_m7 3)), .int (jI (mv_m7 4))]) (rest := []) ⟨hx_, hb_, hml_, hown_, hts_⟩ hM_ hP_ hD_ hS_ hA_ (List.Perm.refl _) (List.Perm.refl _) (c_X5_putIn l D y z a rc is_ pd pn ho eh mv_m7 at_ tk fs lt ea stf_m8 kpf hsf slf (mv_m7 0) (mv_m7 1) (mv_m7 2) (mv_m7 3) (mv_m7 4) fu v9 stf_m10 hv9) 5 gX5_putInOrder_X5_putIn rfl ⟨rfl, rfl⟩ (by decide +kernel) ⟨by rw [hR_]; exact Nat.le_of_ble_eq_true rfl, by rw [hR_]; exact Nat.le_of_ble_eq_true rfl⟩ 0 5 rfl rfl rfl rfl rfl hl_.1 (Nat.le_of_ble_eq_true rfl) dX5_putInOrder_77 ⟨Nat.zero_le _, Nat.zero_le _⟩ (fun H locs hP_ hD_ hS_ => ?_)
            refine lv_pop hx_ hb_ dX5_putInOrder_80 rfl ?_
            refine lv_iinc (v := jI (v6 + 1)) (lv' := [(2, .int (jI (v6 + 1))), (0, .ref (a 0)), (1, .int (jI v5))]) hx_ hb_ dX5_putInOrder_81 hl_ (k := 2) rfl (jI_add _ _) (by decide) rfl (fun ls hl_ => ?_)
            refine lv_goto (tgt := 16) hx_ hb_ dX5_putInOrder_84 (by decide) ?_
            exact ih16 _ _ _ _ _ _ ls h_ hP_ hD_ hS_ (lv_sub hl_ [1, 2, 0] rfl)
          have hL23 : ∀ n23 : Nat, ∀ (mv_m11 : Int → Int) (stf_m12 : Int → Int) (v13 : Int) (H : Heap) (locs : List Loc) (ls : Array Slot), f_X5_putInOrder_L23 fu v6 (f_X5_putInOrder_X46 fu v5 v6 (f_X5_putInOrder_L16 fu (f_X5_putInOrder_X87 fu) n16)) n23 mv_m11 stf_m12 v13 = some (q_mv, q_stf) → va_P D vwCl [(wMo y a rc is_ pd pn ho eh mv_m11 at_ tk fs lt ea), (wAr y (a 6) 205 stf_m12), (wAr y (a 7) 205 kpf), (wAr y (a 8) 1230 hsf), (wAr y (a 9) 410 slf)].flatten H → va_D A [(wMo y a rc is_ pd pn ho eh mv_m11 at_ tk fs lt ea), (wAr y (a 6) 205 stf_m12), (wAr y (a 7) 205 kpf), (wAr y (a 8) 1230 hsf), (wAr y (a 9) 410 slf)].flatten → va_S A s.heap H locs → lv_has ls 4 [(0, .ref (a 0)), (1, .int (jI v5)), (2, .int (jI v6)), (3, .int (jI v13))] → W p l e R s m args below meth c H locs 0 0 Q (F0 m 23 ls []) := by
            intro n23
            induction n23 with
            | zero => intro _ _ _ H locs ls h_; have h_ : (none : Option ((Int → Int) × (Int → Int))) = some (q_mv, q_stf) := h_; cases h_
            | succ n23 ih23 =>
              intro mv_m11 stf_m12 v13 H locs ls h_ hP_ hD_ hS_ hl_
              replace h_ : f_X5_putInOrder_L23_b fu v6 (f_X5_putInOrder_X46 fu v5 v6 (f_X5_putInOrder_L16 fu (f_X5_putInOrder_X87 fu) n16)) (f_X5_putInOrder_L23 fu v6 (f_X5_putInOrder_X46 fu v5 v6 (f_X5_putInOrder_L16 fu (f_X5_putInOrder_X87 fu) n16)) n23) mv_m11 stf_m12 v13 = some (q_mv, q_stf) := h_
              unfold f_X5_putInOrder_L23_b at h_
              refine lv_iload_n hx_ hb_ dX5_putInOrder_23 rfl (lv_at hl_ 3 rfl) ?_
              refine lv_iconst (v := jI 5) hx_ hb_ dX5_putInOrder_24 (by decide +kernel) ?_
              refine jx_icmp_ge (tgt := 46) hx_ hb_ h_ dX5_putInOrder_25 (by decide) (fun h_ => ?_) (fun h_ => ?_)
              · exact hX46 _ _ _ _ ls h_ hP_ hD_ hS_ (lv_sub hl_ [0, 1, 2] rfl)
              · refine lv_aload_n hx_ hb_ dX5_putInOrder_28 rfl (lv_at hl_ 0 rfl) ?_
                refine va_get (D := D) (ci := 5) (v := .ref (a 5)) (C := RX5) (T := TX5) (N := 16) hx_ hb_ hts_ hin_ hown_ hM_.1 hP_ 0 rfl rfl 10 (by decide) (hts_ (.fieldLink RX5 34 "MusicHolesModel" "moved" "[I") (by decide +kernel)) (fun _ h9_ => h9_) rfl dX5_putInOrder_29 ?_
                refine lv_iload_n hx_ hb_ dX5_putInOrder_32 rfl (lv_at hl_ 3 rfl) ?_
                refine lv_aload_n hx_ hb_ dX5_putInOrder_33 rfl (lv_at hl_ 0 rfl) ?_
                refine lv_iload_n hx_ hb_ dX5_putInOrder_34 rfl (lv_at hl_ 2 rfl) ?_
                refine lv_iload_n hx_ hb_ dX5_putInOrder_35 rfl (lv_at hl_ 3 rfl) ?_
                obtain ⟨v14, hv14, h_⟩ := jb_i h_
                refine jx_cvi (wr := []) (cw := [(wMo y a rc is_ pd pn ho eh mv_m11 at_ tk fs lt ea), (wAr y (a 6) 205 stf_m12), (wAr y (a 7) 205 kpf), (wAr y (a 8) 1230 hsf), (wAr y (a 9) 410 slf)]) (cw1 := [(wMo y a rc is_ pd pn ho eh mv_m11 at_ tk fs lt ea), (wAr y (a 6) 205 stf_m12), (wAr y (a 7) 205 kpf), (wAr y (a 8) 1230 hsf), (wAr y (a 9) 410 slf)]) (cs1 := [(wMo y a rc is_ pd pn ho eh mv_m11 at_ tk fs lt ea), (wAr y (a 6) 205 stf_m12), (wAr y (a 7) 205 kpf), (wAr y (a 8) 1230 hsf), (wAr y (a 9) 410 slf)]) (As := [.int (jI v6), .int (jI v13)]) (rest := [.int (jI v13), .ref (a 5)]) ⟨hx_, hb_, hml_, hown_, hts_⟩ hM_ hP_ hD_ hS_ hA_ (List.Perm.refl _) (List.Perm.refl _) (c_X5_part l D y z a rc is_ pd pn ho eh mv_m11 at_ tk fs lt ea stf_m12 kpf hsf slf v6 v13 fu v14 hv14) 2 gX5_putInOrder_X5_part rfl ⟨rfl, rfl⟩ (by decide +kernel) ⟨by rw [hR_]; exact Nat.le_of_ble_eq_true rfl, by rw [hR_]; exact Nat.le_of_ble_eq_true rfl⟩ 0 5 rfl rfl rfl rfl rfl hl_.1 (Nat.le_of_ble_eq_true rfl) dX5_putInOrder_36 ⟨Nat.zero_le _, Nat.zero_le _⟩ (fun H locs hP_ hD_ hS_ => ?_)
                refine jx_iast hx_ hb_ hM_ hP_ hD_ hS_ 5 0 rfl rfl rfl (Nat.le_of_ble_eq_true rfl) h_ dX5_putInOrder_39 (fun H locs h_ hP_ hD_ hS_ => ?_)
                have hP_ : va_P D vwCl [(wMo y a rc is_ pd pn ho eh (uI mv_m11 v13 v14) at_ tk fs lt ea), (wAr y (a 6) 205 stf_m12), (wAr y (a 7) 205 kpf), (wAr y (a 8) 1230 hsf), (wAr y (a 9) 410 slf)].flatten H := hP_
                have hD_ : va_D A [(wMo y a rc is_ pd pn ho eh (uI mv_m11 v13 v14) at_ tk fs lt ea), (wAr y (a 6) 205 stf_m12), (wAr y (a 7) 205 kpf), (wAr y (a 8) 1230 hsf), (wAr y (a 9) 410 slf)].flatten := hD_
                refine lv_iinc (v := jI (v13 + 1)) (lv' := [(3, .int (jI (v13 + 1))), (0, .ref (a 0)), (1, .int (jI v5)), (2, .int (jI v6))]) hx_ hb_ dX5_putInOrder_40 hl_ (k := 3) rfl (jI_add _ _) (by decide) rfl (fun ls hl_ => ?_)
                refine lv_goto (tgt := 23) hx_ hb_ dX5_putInOrder_43 (by decide) ?_
                exact ih23 _ _ _ _ _ ls h_ hP_ hD_ hS_ (lv_sub hl_ [1, 2, 3, 0] rfl)
          exact hL23 fu _ _ _ _ _ ls h_ hP_ hD_ hS_ (lv_sub hl_ [1, 2, 3, 0] rfl)
    exact hL16 fu _ _ _ _ _ _ ls h_ hP_ hD_ hS_ (lv_sub hl_ [2, 1, 0] rfl)
  exact key_ _ (fun mv9 stf9 H locs pc ls h9_ hdg_ hP_ hD_ hS_ => by cases h9_; exact jend_v hx_ hb_ hr_ hlocks_ hP_ hD_ hS_ hdg_)
