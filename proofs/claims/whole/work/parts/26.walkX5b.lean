def rm_X5_isHole : Room := { frames := 1, cells := 0, slots := 0, locals := 22 }
set_option maxRecDepth 100000 in
set_option maxHeartbeats 8000000 in
theorem c_X5_isHole (l : Launch) (D : va_G) (y : Nat → ClassId) (z : Nat → Nat) (a : Nat → Nat) (rc : Int) (is_ : Int → Int) (pd : Int → Int) (pn : Int) (ho : Int → Int) (eh : Int → Int) (mv : Int → Int) (at_ : Int) (tk : Int) (fs : Int) (lt : Int) (ea : Int) (stf : Int → Int) (kpf : Int → Int) (hsf : Int → Int) (slf : Int → Int) (x1 : Int) (x2 : Int) (fu : Nat) (rr : Int) (h_ : f_X5_isHole fu stf x1 x2 = some rr) : jCI l D y z yX5_isHole wsX5_isHole rm_X5_isHole [.ref (a 0), .int (jI x1), .int (jI x2)] [(wMo y a rc is_ pd pn ho eh mv at_ tk fs lt ea), (wAr y (a 6) 205 stf), (wAr y (a 7) 205 kpf), (wAr y (a 8) 1230 hsf), (wAr y (a 9) 410 slf)] [(wMo y a rc is_ pd pn ho eh mv at_ tk fs lt ea), (wAr y (a 6) 205 stf), (wAr y (a 7) 205 kpf), (wAr y (a 8) 1230 hsf), (wAr y (a 9) 410 slf)] rr := by
  intro sz
  refine jmet (Qc := (fun A => va_Qi (fun v (_ : Unit) => v = jI rr) (jB D A [(wMo y a rc is_ pd pn ho eh mv at_ tk fs lt ea), (wAr y (a 6) 205 stf), (wAr y (a 7) 205 kpf), (wAr y (a 8) 1230 hsf), (wAr y (a 9) 410 slf)]) A)) (cc := cX5_isHole) (maxL := 4) (ret := (some .boolean)) (own := RX5) (by decide) rfl (Nat.le_of_ble_eq_true rfl) rfl (fun p e s m R args below meth c A ls hR_ hargs_ hx_ hb_ hr_ hlocks_ hml_ hown_ hts_ hname_ hsz_ hP_ hD_ hA_ hM_ hl_ => ?_)
  have key_ : ∀ Q : State → Prop, (∀ (v9 : Int) (H : Heap) (locs : List Loc) (pc : Nat) (ls : Array Slot), some v9 = some rr → (v9 = 0 ∨ v9 = 1) → decode cX5_isHole pc = .ok (.ireturn, 1) → va_P D vwCl [(wMo y a rc is_ pd pn ho eh mv at_ tk fs lt ea), (wAr y (a 6) 205 stf), (wAr y (a 7) 205 kpf), (wAr y (a 8) 1230 hsf), (wAr y (a 9) 410 slf)].flatten H → va_D A [(wMo y a rc is_ pd pn ho eh mv at_ tk fs lt ea), (wAr y (a 6) 205 stf), (wAr y (a 7) 205 kpf), (wAr y (a 8) 1230 hsf), (wAr y (a 9) 410 slf)].flatten → va_S A s.heap H locs → W p l e R s m args below meth c H locs 0 0 Q (F0 m pc ls [.int (jI v9)])) → W p l e R s m args below meth c s.heap [] 0 0 Q (F0 m 0 ls []) := by
    intro Q hE_
    have hS_ : va_S A s.heap s.heap [] := va_S.rf
    have hl_ : lv_has ls 4 [(0, .ref (a 0)), (1, .int (jI x1)), (2, .int (jI x2))] := hl_
    have hin_ : ∀ w ∈ u_ws RX5 TX5 16, w ∈ wsX5_isHole := by decide +kernel
    unfold f_X5_isHole at h_
    refine lv_aload_n hx_ hb_ dX5_isHole_0 rfl (lv_at hl_ 0 rfl) ?_
    refine lv_iload_n hx_ hb_ dX5_isHole_1 rfl (lv_at hl_ 1 rfl) ?_
    refine lv_iconst (v := jI 1) hx_ hb_ dX5_isHole_2 (by decide +kernel) ?_
    obtain ⟨v1, hv1, h_⟩ := jb_i h_
    refine jx_cvi (wr := []) (cw := [(wMo y a rc is_ pd pn ho eh mv at_ tk fs lt ea), (wAr y (a 6) 205 stf), (wAr y (a 7) 205 kpf), (wAr y (a 8) 1230 hsf), (wAr y (a 9) 410 slf)]) (cw1 := [(wMo y a rc is_ pd pn ho eh mv at_ tk fs lt ea), (wAr y (a 6) 205 stf), (wAr y (a 7) 205 kpf), (wAr y (a 8) 1230 hsf), (wAr y (a 9) 410 slf)]) (cs1 := [(wMo y a rc is_ pd pn ho eh mv at_ tk fs lt ea), (wAr y (a 6) 205 stf), (wAr y (a 7) 205 kpf), (wAr y (a 8) 1230 hsf), (wAr y (a 9) 410 slf)]) (As := [.int (jI x1), .int (jI 1)]) (rest := []) ⟨hx_, hb_, hml_, hown_, hts_⟩ hM_ hP_ hD_ hS_ hA_ (List.Perm.refl _) (List.Perm.refl _) (c_X5_part l D y z a rc is_ pd pn ho eh mv at_ tk fs lt ea stf kpf hsf slf x1 1 fu v1 hv1) 2 gX5_isHole_X5_part rfl ⟨rfl, rfl⟩ (by decide +kernel) ⟨by rw [hR_]; exact Nat.le_of_ble_eq_true rfl, by rw [hR_]; exact Nat.le_of_ble_eq_true rfl⟩ 0 5 rfl rfl rfl rfl rfl hl_.1 (Nat.le_of_ble_eq_true rfl) dX5_isHole_3 ⟨Nat.zero_le _, Nat.zero_le _⟩ (fun H locs hP_ hD_ hS_ => ?_)
    refine lv_istore_n (lv' := [(3, .int (jI v1)), (0, .ref (a 0)), (1, .int (jI x1)), (2, .int (jI x2))]) hx_ hb_ dX5_isHole_6 rfl hl_ (by decide) rfl (fun ls hl_ => ?_)
    refine lv_iload_n hx_ hb_ dX5_isHole_7 rfl (lv_at hl_ 3 rfl) ?_
    refine lv_iload_n hx_ hb_ dX5_isHole_8 rfl (lv_at hl_ 0 rfl) ?_
    refine jx_icmp_eq (tgt := 55) hx_ hb_ h_ dX5_isHole_9 (by decide) (fun h_ => ?_) (fun h_ => ?_)
    · refine lv_iconst (v := jI 1) hx_ hb_ dX5_isHole_55 (by decide +kernel) ?_
      refine lv_goto (tgt := 60) hx_ hb_ dX5_isHole_56 (by decide) ?_
      obtain ⟨hz_, h_⟩ := jbo_i h_
      exact hE_ _ _ _ _ _ h_ hz_ dX5_isHole_60 hP_ hD_ hS_
    · refine lv_iload_n hx_ hb_ dX5_isHole_12 rfl (lv_at hl_ 3 rfl) ?_
      refine lv_aload_n hx_ hb_ dX5_isHole_13 rfl (lv_at hl_ 1 rfl) ?_
      refine lv_iload_n hx_ hb_ dX5_isHole_14 rfl (lv_at hl_ 2 rfl) ?_
      refine lv_iconst (v := jI 2) hx_ hb_ dX5_isHole_15 (by decide +kernel) ?_
      obtain ⟨v2, hv2, h_⟩ := jb_i h_
      refine jx_cvi (wr := []) (cw := [(wMo y a rc is_ pd pn ho eh mv at_ tk fs lt ea), (wAr y (a 6) 205 stf), (wAr y (a 7) 205 kpf), (wAr y (a 8) 1230 hsf), (wAr y (a 9) 410 slf)]) (cw1 := [(wMo y a rc is_ pd pn ho eh mv at_ tk fs lt ea), (wAr y (a 6) 205 stf), (wAr y (a 7) 205 kpf), (wAr y (a 8) 1230 hsf), (wAr y (a 9) 410 slf)]) (cs1 := [(wMo y a rc is_ pd pn ho eh mv at_ tk fs lt ea), (wAr y (a 6) 205 stf), (wAr y (a 7) 205 kpf), (wAr y (a 8) 1230 hsf), (wAr y (a 9) 410 slf)]) (As := [.int (jI x1), .int (jI 2)]) (rest := [.int (jI x2)]) ⟨hx_, hb_, hml_, hown_, hts_⟩ hM_ hP_ hD_ hS_ hA_ (List.Perm.refl _) (List.Perm.refl _) (c_X5_part l D y z a rc is_ pd pn ho eh mv at_ tk fs lt ea stf kpf hsf slf x1 2 fu v2 hv2) 2 gX5_isHole_X5_part rfl ⟨rfl, rfl⟩ (by decide +kernel) ⟨by rw [hR_]; exact Nat.le_of_ble_eq_true rfl, by rw [hR_]; exact Nat.le_of_ble_eq_true rfl⟩ 0 5 rfl rfl rfl rfl rfl hl_.1 (Nat.le_of_ble_eq_true rfl) dX5_isHole_16 ⟨Nat.zero_le _, Nat.zero_le _⟩ (fun H locs hP_ hD_ hS_ => ?_)
      refine jx_icmp_eq (tgt := 55) hx_ hb_ h_ dX5_isHole_19 (by decide) (fun h_ => ?_) (fun h_ => ?_)
      · refine lv_iconst (v := jI 1) hx_ hb_ dX5_isHole_55 (by decide +kernel) ?_
        refine lv_goto (tgt := 60) hx_ hb_ dX5_isHole_56 (by decide) ?_
        obtain ⟨hz_, h_⟩ := jbo_i h_
        exact hE_ _ _ _ _ _ h_ hz_ dX5_isHole_60 hP_ hD_ hS_
      · refine lv_iload_n hx_ hb_ dX5_isHole_22 rfl (lv_at hl_ 3 rfl) ?_
        refine lv_iload_n hx_ hb_ dX5_isHole_23 rfl (lv_at hl_ 0 rfl) ?_
        refine jx_isub hx_ hb_ dX5_isHole_24 ?_
        refine lv_aload_n hx_ hb_ dX5_isHole_25 rfl (lv_at hl_ 1 rfl) ?_
        refine lv_iload_n hx_ hb_ dX5_isHole_26 rfl (lv_at hl_ 2 rfl) ?_
        refine lv_iconst (v := jI 3) hx_ hb_ dX5_isHole_27 (by decide +kernel) ?_
        obtain ⟨v3, hv3, h_⟩ := jb_i h_
        refine jx_cvi (wr := []) (cw := [(wMo y a rc is_ pd pn ho eh mv at_ tk fs lt ea), (wAr y (a 6) 205 stf), (wAr y (a 7) 205 kpf), (wAr y (a 8) 1230 hsf), (wAr y (a 9) 410 slf)]) (cw1 := [(wMo y a rc is_ pd pn ho eh mv at_ tk fs lt ea), (wAr y (a 6) 205 stf), (wAr y (a 7) 205 kpf), (wAr y (a 8) 1230 hsf), (wAr y (a 9) 410 slf)]) (cs1 := [(wMo y a rc is_ pd pn ho eh mv at_ tk fs lt ea), (wAr y (a 6) 205 stf), (wAr y (a 7) 205 kpf), (wAr y (a 8) 1230 hsf), (wAr y (a 9) 410 slf)]) (As := [.int (jI x1), .int (jI 3)]) (rest := [.int (jI (x2 - v1))]) ⟨hx_, hb_, hml_, hown_, hts_⟩ hM_ hP_ hD_ hS_ hA_ (List.Perm.refl _) (List.Perm.refl _) (c_X5_part l D y z a rc is_ pd pn ho eh mv at_ tk fs lt ea stf kpf hsf slf x1 3 fu v3 hv3) 2 gX5_isHole_X5_part rfl ⟨rfl, rfl⟩ (by decide +kernel) ⟨by rw [hR_]; exact Nat.le_of_ble_eq_true rfl, by rw [hR_]; exact Nat.le_of_ble_eq_true rfl⟩ 0 5 rfl rfl rfl rfl rfl hl_.1 (Nat.le_of_ble_eq_true rfl) dX5_isHole_28 ⟨Nat.zero_le _, Nat.zero_le _⟩ (fun H locs hP_ hD_ hS_ => ?_)
        refine jx_iadd hx_ hb_ dX5_isHole_31 ?_
        refine lv_aload_n hx_ hb_ dX5_isHole_32 rfl (lv_at hl_ 1 rfl) ?_
        refine va_get (D := D) (ci := 5) (v := .ref (a 6)) (C := RX5) (T := TX5) (N := 16) hx_ hb_ hts_ hin_ hown_ hM_.1 hP_ 0 rfl rfl 0 (by decide) (hts_ (.fieldLink RX5 7 "MusicHolesModel" "state" "[I") (by decide +kernel)) (fun _ h9_ => h9_) rfl dX5_isHole_33 ?_
        refine lv_iconst (v := jI 0) hx_ hb_ dX5_isHole_36 (by decide +kernel) ?_
        refine jx_iald hx_ hb_ hM_ hP_ 6 0 rfl rfl rfl (Nat.le_of_ble_eq_true rfl) h_ dX5_isHole_37 (fun h_ => ?_)
        refine lv_aload_n hx_ hb_ dX5_isHole_38 rfl (lv_at hl_ 1 rfl) ?_
        refine va_get (D := D) (ci := 5) (v := .ref (a 6)) (C := RX5) (T := TX5) (N := 16) hx_ hb_ hts_ hin_ hown_ hM_.1 hP_ 0 rfl rfl 0 (by decide) (hts_ (.fieldLink RX5 7 "MusicHolesModel" "state" "[I") (by decide +kernel)) (fun _ h9_ => h9_) rfl dX5_isHole_39 ?_
        refine lv_iconst (v := jI 1) hx_ hb_ dX5_isHole_42 (by decide +kernel) ?_
        refine jx_iald hx_ hb_ hM_ hP_ 6 0 rfl rfl rfl (Nat.le_of_ble_eq_true rfl) h_ dX5_isHole_43 (fun h_ => ?_)
        refine jx_iadd hx_ hb_ dX5_isHole_44 ?_
        refine jx_irem hx_ hb_ h_ dX5_isHole_45 (fun h_ => ?_)
        refine lv_aload_n hx_ hb_ dX5_isHole_46 rfl (lv_at hl_ 1 rfl) ?_
        refine va_get (D := D) (ci := 5) (v := .ref (a 6)) (C := RX5) (T := TX5) (N := 16) hx_ hb_ hts_ hin_ hown_ hM_.1 hP_ 0 rfl rfl 0 (by decide) (hts_ (.fieldLink RX5 7 "MusicHolesModel" "state" "[I") (by decide +kernel)) (fun _ h9_ => h9_) rfl dX5_isHole_47 ?_
        refine lv_iconst (v := jI 0) hx_ hb_ dX5_isHole_50 (by decide +kernel) ?_
        refine jx_iald hx_ hb_ hM_ hP_ 6 0 rfl rfl rfl (Nat.le_of_ble_eq_true rfl) h_ dX5_isHole_51 (fun h_ => ?_)
        refine jx_icmp_ge (tgt := 59) hx_ hb_ h_ dX5_isHole_52 (by decide) (fun h_ => ?_) (fun h_ => ?_)
        · refine lv_iconst (v := jI 0) hx_ hb_ dX5_isHole_59 (by decide +kernel) ?_
          obtain ⟨hz_, h_⟩ := jbo_i h_
          exact hE_ _ _ _ _ _ h_ hz_ dX5_isHole_60 hP_ hD_ hS_
        · refine lv_iconst (v := jI 1) hx_ hb_ dX5_isHole_55 (by decide +kernel) ?_
          refine lv_goto (tgt := 60) hx_ hb_ dX5_isHole_56 (by decide) ?_
          obtain ⟨hz_, h_⟩ := jbo_i h_
          exact hE_ _ _ _ _ _ h_ hz_ dX5_isHole_60 hP_ hD_ hS_
  exact key_ _ (fun v9 H locs pc ls h9_ hz_ hdg_ hP_ hD_ hS_ => by cases h9_; exact jend_z hx_ hb_ hr_ hlocks_ hz_ hP_ hD_ hS_ hdg_)
def rm_X5_findHoles : Room := { frames := 2, cells := 0, slots := 0, locals := 45 }
set_option maxRecDepth 100000 in
set_option maxHeartbeats 8000000 in
theorem c_X5_findHoles (l : Launch) (D : va_G) (y : Nat → ClassId) (z : Nat → Nat) (a : Nat → Nat) (rc : Int) (is_ : Int → Int) (pd : Int → Int) (pn : Int) (ho : Int → Int) (eh : Int → Int) (mv : Int → Int) (at_ : Int) (tk : Int) (fs : Int) (lt : Int) (ea : Int) (stf : Int → Int) (kpf : Int → Int) (hsf : Int → Int) (slf : Int → Int)  (fu : Nat) (q_ho : Int → Int) (h_ : f_X5_findHoles fu ho stf = some q_ho) : jCV l D y z yX5_findHoles wsX5_findHoles rm_X5_findHoles [.ref (a 0)] [(wMo y a rc is_ pd pn ho eh mv at_ tk fs lt ea), (wAr y (a 6) 205 stf), (wAr y (a 7) 205 kpf), (wAr y (a 8) 1230 hsf), (wAr y (a 9) 410 slf)] [(wMo y a rc is_ pd pn q_ho eh mv at_ tk fs lt ea), (wAr y (a 6) 205 stf), (wAr y (a 7) 205 kpf), (wAr y (a 8) 1230 hsf), (wAr y (a 9) 410 slf)] := by
  intro sz
  refine jmet (Qc := (fun A => va_Qv (fun (_ : Unit) => True) (jB D A [(wMo y a rc is_ pd pn q_ho eh mv at_ tk fs lt ea), (wAr y (a 6) 205 stf), (wAr y (a 7) 205 kpf), (wAr y (a 8) 1230 hsf), (wAr y (a 9) 410 slf)]) A)) (cc := cX5_findHoles) (maxL := 4) (ret := none) (own := RX5) (by decide) rfl (Nat.le_of_ble_eq_true rfl) rfl (fun p e s m R args below meth c A ls hR_ hargs_ hx_ hb_ hr_ hlocks_ hml_ hown_ hts_ hname_ hsz_ hP_ hD_ hA_ hM_ hl_ => ?_)
  have key_ : ∀ Q : State → Prop, (∀ (ho9 : Int → Int) (H : Heap) (locs : List Loc) (pc : Nat) (ls : Array Slot), some ho9 = some q_ho → decode cX5_findHoles pc = .ok (.return_, 1) → va_P D vwCl [(wMo y a rc is_ pd pn ho9 eh mv at_ tk fs lt ea), (wAr y (a 6) 205 stf), (wAr y (a 7) 205 kpf), (wAr y (a 8) 1230 hsf), (wAr y (a 9) 410 slf)].flatten H → va_D A [(wMo y a rc is_ pd pn ho9 eh mv at_ tk fs lt ea), (wAr y (a 6) 205 stf), (wAr y (a 7) 205 kpf), (wAr y (a 8) 1230 hsf), (wAr y (a 9) 410 slf)].flatten → va_S A s.heap H locs → W p l e R s m args below meth c H locs 0 0 Q (F0 m pc ls [])) → W p l e R s m args below meth c s.heap [] 0 0 Q (F0 m 0 ls []) := by
    intro Q hE_
    have hS_ : va_S A s.heap s.heap [] := va_S.rf
    have hl_ : lv_has ls 4 [(0, .ref (a 0))] := hl_
    have hin_ : ∀ w ∈ u_ws RX5 TX5 16, w ∈ wsX5_findHoles := by decide +kernel
    unfold f_X5_findHoles at h_
    refine lv_iconst (v := jI 0) hx_ hb_ dX5_findHoles_0 (by decide +kernel) ?_
    refine lv_istore_n (lv' := [(1, .int (jI 0)), (0, .ref (a 0))]) hx_ hb_ dX5_findHoles_1 rfl hl_ (by decide) rfl (fun ls hl_ => ?_)
    have hX21 : ∀ (ho_m1 : Int → Int) (H : Heap) (locs : List Loc) (ls : Array Slot), f_X5_findHoles_X21 fu stf ho_m1 = some q_ho → va_P D vwCl [(wMo y a rc is_ pd pn ho_m1 eh mv at_ tk fs lt ea), (wAr y (a 6) 205 stf), (wAr y (a 7) 205 kpf), (wAr y (a 8) 1230 hsf), (wAr y (a 9) 410 slf)].flatten H → va_D A [(wMo y a rc is_ pd pn ho_m1 eh mv at_ tk fs lt ea), (wAr y (a 6) 205 stf), (wAr y (a 7) 205 kpf), (wAr y (a 8) 1230 hsf), (wAr y (a 9) 410 slf)].flatten → va_S A s.heap H locs → lv_has ls 4 [(0, .ref (a 0))] → W p l e R s m args below meth c H locs 0 0 Q (F0 m 21 ls []) := by
      intro ho_m1 H locs ls h_ hP_ hD_ hS_ hl_
      unfold f_X5_findHoles_X21 at h_
      refine lv_iconst (v := jI 0) hx_ hb_ dX5_findHoles_21 (by decide +kernel) ?_
      refine lv_istore_n (lv' := [(1, .int (jI 0)), (0, .ref (a 0))]) hx_ hb_ dX5_findHoles_22 rfl hl_ (by decide) rfl (fun ls hl_ => ?_)
      have hX140 : ∀ (ho_m2 : Int → Int) (H : Heap) (locs : List Loc) (ls : Array Slot), f_X5_findHoles_X140 fu ho_m2 = some q_ho → va_P D vwCl [(wMo y a rc is_ pd pn ho_m2 eh mv at_ tk fs lt ea), (wAr y (a 6) 205 stf), (wAr y (a 7) 205 kpf), (wAr y (a 8) 1230 hsf), (wAr y (a 9) 410 slf)].flatten H → va_D A [(wMo y a rc is_ pd pn ho_m2 eh mv at_ tk fs lt ea), (wAr y (a 6) 205 stf), (wAr y (a 7) 205 kpf), (wAr y (a 8) 1230 hsf), (wAr y (a 9) 410 slf)].flatten → va_S A s.heap H locs → lv_has ls 4 [] → W p l e R s m args below meth c H locs 0 0 Q (F0 m 140 ls []) := by
        intro ho_m2 H locs ls h_ hP_ hD_ hS_ hl_
        unfold f_X5_findHoles_X140 at h_
        exact hE_ _ _ _ _ _ h_ dX5_findHoles_140 hP_ hD_ hS_
      have hL23 : ∀ n23 : Nat, ∀ (ho_m3 : Int → Int) (v4 : Int) (H : Heap) (locs : List Loc) (ls : Array Slot), f_X5_findHoles_L23 fu stf (f_X5_findHoles_X140 fu) n23 ho_m3 v4 = some q_ho → va_P D vwCl [(wMo y a rc is_ pd pn ho_m3 eh mv at_ tk fs lt ea), (wAr y (a 6) 205 stf), (wAr y (a 7) 205 kpf), (wAr y (a 8) 1230 hsf), (wAr y (a 9) 410 slf)].flatten H → va_D A [(wMo y a rc is_ pd pn ho_m3 eh mv at_ tk fs lt ea), (wAr y (a 6) 205 stf), (wAr y (a 7) 205 kpf), (wAr y (a 8) 1230 hsf), (wAr y (a 9) 410 slf)].flatten → va_S A s.heap H locs → lv_has ls 4 [(0, .ref (a 0)), (1, .int (jI v4))] → W p l e R s m args below meth c H locs 0 0 Q (F0 m 23 ls []) := by
        intro n23
        induction n23 with
        | zero => intro _ _ H locs ls h_; have h_ : (none : Option ((Int → Int))) = some q_ho := h_; cases h_
        | succ n23 ih23 =>
          intro ho_m3 v4 H locs ls h_ hP_ hD_ hS_ hl_
          replace h_ : f_X5_findHoles_L23_b fu stf (f_X5_findHoles_X140 fu) (f_X5_findHoles_L23 fu stf (f_X5_findHoles_X140 fu) n23) ho_m3 v4 = some q_ho := h_
          unfold f_X5_findHoles_L23_b at h_
          refine lv_iload_n hx_ hb_ dX5_findHoles_23 rfl (lv_at hl_ 1 rfl) ?_
          refine lv_aload_n hx_ hb_ dX5_findHoles_24 rfl (lv_at hl_ 0 rfl) ?_
          refine va_get (D := D) (ci := 5) (v := .ref (a 6)) (C := RX5) (T := TX5) (N := 16) hx_ hb_ hts_ hin_ hown_ hM_.1 hP_ 0 rfl rfl 0 (by decide) (hts_ (.fieldLink RX5 7 "MusicHolesModel" "state" "[I") (by decide +kernel)) (fun _ h9_ => h9_) rfl dX5_findHoles_25 ?_
          refine lv_iconst (v := jI 4) hx_ hb_ dX5_findHoles_28 (by decide +kernel) ?_
          refine jx_iald hx_ hb_ hM_ hP_ 6 0 rfl rfl rfl (Nat.le_of_ble_eq_true rfl) h_ dX5_findHoles_29 (fun h_ => ?_)
          refine jx_icmp_ge (tgt := 140) hx_ hb_ h_ dX5_findHoles_30 (by decide) (fun h_ => ?_) (fun h_ => ?_)
          · exact hX140 _ _ _ ls h_ hP_ hD_ hS_ (lv_sub hl_ [] rfl)
          · refine lv_aload_n hx_ hb_ dX5_findHoles_33 rfl (lv_at hl_ 0 rfl) ?_
            refine lv_iload_n hx_ hb_ dX5_findHoles_34 rfl (lv_at hl_ 1 rfl) ?_
            refine lv_iconst (v := jI 0) hx_ hb_ dX5_findHoles_35 (by decide +kernel) ?_
            obtain ⟨v5, hv5, h_⟩ := jb_i h_
            refine jx_cvi (wr := []) (cw := [(wMo y a rc is_ pd pn ho_m3 eh mv at_ tk fs lt ea), (wAr y (a 6) 205 stf), (wAr y (a 7) 205 kpf), (wAr y (a 8) 1230 hsf), (wAr y (a 9) 410 slf)]) (cw1 := [(wMo y a rc is_ pd pn ho_m3 eh mv at_ tk fs lt ea), (wAr y (a 6) 205 stf), (wAr y (a 7) 205 kpf), (wAr y (a 8) 1230 hsf), (wAr y (a 9) 410 slf)]) (cs1 := [(wMo y a rc is_ pd pn ho_m3 eh mv at_ tk fs lt ea), (wAr y (a 6) 205 stf), (wAr y (a 7) 205 kpf), (wAr y (a 8) 1230 hsf), (wAr y (a 9) 410 slf)]) (As := [.int (jI v4), .int (jI 0)]) (rest := []) ⟨hx_, hb_, hml_, hown_, hts_⟩ hM_ hP_ hD_ hS_ hA_ (List.Perm.refl _) (List.Perm.refl _) (c_X5_part l D y z a rc is_ pd pn ho_m3 eh mv at_ tk fs lt ea stf kpf hsf slf v4 0 fu v5 hv5) 2 gX5_findHoles_X5_part rfl ⟨rfl, rfl⟩ (by decide +kernel) ⟨by rw [hR_]; exact Nat.le_of_ble_eq_true rfl, by rw [hR_]; exact Nat.le_of_ble_eq_true rfl⟩ 0 5 rfl rfl rfl rfl rfl hl_.1 (Nat.le_of_ble_eq_true rfl) dX5_findHoles_36 ⟨Nat.zero_le _, Nat.zero_le _⟩ (fun H locs hP_ hD_ hS_ => ?_)
            refine lv_istore_n (lv' := [(2, .int (jI v5)), (0, .ref (a 0)), (1, .int (jI v4))]) hx_ hb_ dX5_findHoles_39 rfl hl_ (by decide) rfl (fun ls hl_ => ?_)
            refine lv_aload_n hx_ hb_ dX5_findHoles_40 rfl (lv_at hl_ 1 rfl) ?_
            refine lv_iload_n hx_ hb_ dX5_findHoles_41 rfl (lv_at hl_ 2 rfl) ?_
            refine lv_iconst (v := jI 1) hx_ hb_ dX5_findHoles_42 (by decide +kernel) ?_
            obtain ⟨v6, hv6, h_⟩ := jb_i h_
            refine jx_cvi (wr := []) (cw := [(wMo y a rc is_ pd pn ho_m3 eh mv at_ tk fs lt ea), (wAr y (a 6) 205 stf), (wAr y (a 7) 205 kpf), (wAr y (a 8) 1230 hsf), (wAr y (a 9) 410 slf)]) (cw1 := [(wMo y a rc is_ pd pn ho_m3 eh mv at_ tk fs lt ea), (wAr y (a 6) 205 stf), (wAr y (a 7) 205 kpf), (wAr y (a 8) 1230 hsf), (wAr y (a 9) 410 slf)]) (cs1 := [(wMo y a rc is_ pd pn ho_m3 eh mv at_ tk fs lt ea), (wAr y (a 6) 205 stf), (wAr y (a 7) 205 kpf), (wAr y (a 8) 1230 hsf), (wAr y (a 9) 410 slf)]) (As := [.int (jI v4), .int (jI 1)]) (rest := []) ⟨hx_, hb_, hml_, hown_, hts_⟩ hM_ hP_ hD_ hS_ hA_ (List.Perm.refl _) (List.Perm.refl _) (c_X5_part l D y z a rc is_ pd pn ho_m3 eh mv at_ tk fs lt ea stf kpf hsf slf v4 1 fu v6 hv6) 2 gX5_findHoles_X5_part rfl ⟨rfl, rfl⟩ (by decide +kernel) ⟨by rw [hR_]; exact Nat.le_of_ble_eq_true rfl, by rw [hR_]; exact Nat.le_of_ble_eq_true rfl⟩ 0 5 rfl rfl rfl rfl rfl hl_.1 (Nat.le_of_ble_eq_true rfl) dX5_findHoles_43 ⟨Nat.zero_le _, Nat.zero_le _⟩ (fun H locs hP_ hD_ hS_ => ?_)
            refine lv_istore_n (lv' := [(3, .int (jI v6)), (2, .int (jI v5)), (0, .ref (a 0)), (1, .int (jI v4))]) hx_ hb_ dX5_findHoles_46 rfl hl_ (by decide) rfl (fun ls hl_ => ?_)
            have hX88 : ∀ (ho_m7 : Int → Int) (H : Heap) (locs : List Loc) (ls : Array Slot), f_X5_findHoles_X88 fu stf v4 v5 (f_X5_findHoles_L23 fu stf (f_X5_findHoles_X140 fu) n23) ho_m7 = some q_ho → va_P D vwCl [(wMo y a rc is_ pd pn ho_m7 eh mv at_ tk fs lt ea), (wAr y (a 6) 205 stf), (wAr y (a 7) 205 kpf), (wAr y (a 8) 1230 hsf), (wAr y (a 9) 410 slf)].flatten H → va_D A [(wMo y a rc is_ pd pn ho_m7 eh mv at_ tk fs lt ea), (wAr y (a 6) 205 stf), (wAr y (a 7) 205 kpf), (wAr y (a 8) 1230 hsf), (wAr y (a 9) 410 slf)].flatten → va_S A s.heap H locs → lv_has ls 4 [(0, .ref (a 0)), (1, .int (jI v4)), (2, .int (jI v5))] → W p l e R s m args below meth c H locs 0 0 Q (F0 m 88 ls []) := by
              intro ho_m7 H locs ls h_ hP_ hD_ hS_ hl_
              unfold f_X5_findHoles_X88 at h_
              refine lv_aload_n hx_ hb_ dX5_findHoles_88 rfl (lv_at hl_ 0 rfl) ?_
              refine va_get (D := D) (ci := 5) (v := .ref (a 3)) (C := RX5) (T := TX5) (N := 16) hx_ hb_ hts_ hin_ hown_ hM_.1 hP_ 0 rfl rfl 8 (by decide) (hts_ (.fieldLink RX5 28 "MusicHolesModel" "holes" "[I") (by decide +kernel)) (fun _ h9_ => h9_) rfl dX5_findHoles_89 ?_
              refine lv_aload_n hx_ hb_ dX5_findHoles_92 rfl (lv_at hl_ 0 rfl) ?_
              refine lv_iload_n hx_ hb_ dX5_findHoles_93 rfl (lv_at hl_ 1 rfl) ?_
              refine lv_iconst (v := jI 1) hx_ hb_ dX5_findHoles_94 (by decide +kernel) ?_
              obtain ⟨v8, hv8, h_⟩ := jb_i h_
              refine jx_cvi (wr := []) (cw := [(wMo y a rc is_ pd pn ho_m7 eh mv at_ tk fs lt ea), (wAr y (a 6) 205 stf), (wAr y (a 7) 205 kpf), (wAr y (a 8) 1230 hsf), (wAr y (a 9) 410 slf)]) (cw1 := [(wMo y a rc is_ pd pn ho_m7 eh mv at_ tk fs lt ea), (wAr y (a 6) 205 stf), (wAr y (a 7) 205 kpf), (wAr y (a 8) 1230 hsf), (wAr y (a 9) 410 slf)]) (cs1 := [(wMo y a rc is_ pd pn ho_m7 eh mv at_ tk fs lt ea), (wAr y (a 6) 205 stf), (wAr y (a 7) 205 kpf), (wAr y (a 8) 1230 hsf), (wAr y (a 9) 410 slf)]) (As := [.int (jI v4), .int (jI 1)]) (rest := [.ref (a 3)]) ⟨hx_, hb_, hml_, hown_, hts_⟩ hM_ hP_ hD_ hS_ hA_ (List.Perm.refl _) (List.Perm.refl _) (c_X5_part l D y z a rc is_ pd pn ho_m7 eh mv at_ tk fs lt ea stf kpf hsf slf v4 1 fu v8 hv8) 2 gX5_findHoles_X5_part rfl ⟨rfl, rfl⟩ (by decide +kernel) ⟨by rw [hR_]; exact Nat.le_of_ble_eq_true rfl, by rw [hR_]; exact Nat.le_of_ble_eq_true rfl⟩ 0 5 rfl rfl rfl rfl rfl hl_.1 (Nat.le_of_ble_eq_true rfl) dX5_findHoles_95 ⟨Nat.zero_le _, Nat.zero_le _⟩ (fun H locs hP_ hD_ hS_ => ?_)
              refine lv_dup2_11 hx_ hb_ dX5_findHoles_98 rfl rfl ?_
              refine jx_iald hx_ hb_ hM_ hP_ 3 0 rfl rfl rfl (Nat.le_of_ble_eq_true rfl) h_ dX5_findHoles_99 (fun h_ => ?_)
              refine lv_aload_n hx_ hb_ dX5_findHoles_100 rfl (lv_at hl_ 0 rfl) ?_
              refine lv_iload_n hx_ hb_ dX5_findHoles_101 rfl (lv_at hl_ 1 rfl) ?_
              refine lv_iconst (v := jI 4) hx_ hb_ dX5_findHoles_102 (by decide +kernel) ?_
              obtain ⟨v9, hv9, h_⟩ := jb_i h_
              refine jx_cvi (wr := []) (cw := [(wMo y a rc is_ pd pn ho_m7 eh mv at_ tk fs lt ea), (wAr y (a 6) 205 stf), (wAr y (a 7) 205 kpf), (wAr y (a 8) 1230 hsf), (wAr y (a 9) 410 slf)]) (cw1 := [(wMo y a rc is_ pd pn ho_m7 eh mv at_ tk fs lt ea), (wAr y (a 6) 205 stf), (wAr y (a 7) 205 kpf), (wAr y (a 8) 1230 hsf), (wAr y (a 9) 410 slf)]) (cs1 := [(wMo y a rc is_ pd pn ho_m7 eh mv at_ tk fs lt ea), (wAr y (a 6) 205 stf), (wAr y (a 7) 205 kpf), (wAr y (a 8) 1230 hsf), (wAr y (a 9) 410 slf)]) (As := [.int (jI v4), .int (jI 4)]) (rest := [.int (jI (ho_m7 v8)), .int (jI v8), .ref (a 3)]) ⟨hx_, hb_, hml_, hown_, hts_⟩ hM_ hP_ hD_ hS_ hA_ (List.Perm.refl _) (List.Perm.refl _) (c_X5_part l D y z a rc is_ pd pn ho_m7 eh mv at_ tk fs lt ea stf kpf hsf slf v4 4 fu v9 hv9) 2 gX5_findHoles_X5_part rfl ⟨rfl, rfl⟩ (by decide +kernel) ⟨by rw [hR_]; exact Nat.le_of_ble_eq_true rfl, by rw [hR_]; exact Nat.le_of_ble_eq_true rfl⟩ 0 5 rfl rfl rfl rfl rfl hl_.1 (Nat.le_of_ble_eq_true rfl) dX5_findHoles_103 ⟨Nat.zero_le _, Nat.zero_le _⟩ (fun H locs hP_ hD_ hS_ => ?_)
              have hJ132 : ∀ (v10 : Int) (H : Heap) (locs : List Loc) (ls : Array Slot), f_X5_findHoles_J132 fu v4 ho_m7 v8 (f_X5_findHoles_L23 fu stf (f_X5_findHoles_X140 fu) n23) v10 = some q_ho → va_P D vwCl [(wMo y a rc is_ pd pn ho_m7 eh mv at_ tk fs lt ea), (wAr y (a 6) 205 stf), (wAr y (a 7) 205 kpf), (wAr y (a 8) 1230 hsf), (wAr y (a 9) 410 slf)].flatten H → va_D A [(wMo y a rc is_ pd pn ho_m7 eh mv at_ tk fs lt ea), (wAr y (a 6) 205 stf), (wAr y (a 7) 205 kpf), (wAr y (a 8) 1230 hsf), (wAr y (a 9) 410 slf)].flatten → va_S A s.heap H locs → lv_has ls 4 [(0, .ref (a 0)), (1, .int (jI v4))] → W p l e R s m args below meth c H locs 0 0 Q (F0 m 132 ls [.int (jI v10), .int (jI (ho_m7 v8)), .int (jI v8), .ref (a 3)]) := by
                intro v10 H locs ls h_ hP_ hD_ hS_ hl_
                unfold f_X5_findHoles_J132 at h_
                refine jx_ior hx_ hb_ dX5_findHoles_132 ?_
                refine jx_iast hx_ hb_ hM_ hP_ hD_ hS_ 3 0 rfl rfl rfl (Nat.le_of_ble_eq_true rfl) h_ dX5_findHoles_133 (fun H locs h_ hP_ hD_ hS_ => ?_)
                have hP_ : va_P D vwCl [(wMo y a rc is_ pd pn (uI ho_m7 v8 (jor (ho_m7 v8) v10)) eh mv at_ tk fs lt ea), (wAr y (a 6) 205 stf), (wAr y (a 7) 205 kpf), (wAr y (a 8) 1230 hsf), (wAr y (a 9) 410 slf)].flatten H := hP_
                have hD_ : va_D A [(wMo y a rc is_ pd pn (uI ho_m7 v8 (jor (ho_m7 v8) v10)) eh mv at_ tk fs lt ea), (wAr y (a 6) 205 stf), (wAr y (a 7) 205 kpf), (wAr y (a 8) 1230 hsf), (wAr y (a 9) 410 slf)].flatten := hD_
                refine lv_iinc (v := jI (v4 + 1)) (lv' := [(1, .int (jI (v4 + 1))), (0, .ref (a 0))]) hx_ hb_ dX5_findHoles_134 hl_ (k := 1) rfl (jI_add _ _) (by decide) rfl (fun ls hl_ => ?_)
                refine lv_goto (tgt := 23) hx_ hb_ dX5_findHoles_137 (by decide) ?_
                exact ih23 _ _ _ _ ls h_ hP_ hD_ hS_ (lv_sub hl_ [1, 0] rfl)
              refine jx_if_ne (tgt := 113) hx_ hb_ h_ dX5_findHoles_106 (by decide) (fun h_ => ?_) (fun h_ => ?_)
              · refine lv_iload_n hx_ hb_ dX5_findHoles_113 rfl (lv_at hl_ 2 rfl) ?_
                refine lv_bipush (v := jI 11) hx_ hb_ dX5_findHoles_114 (by decide +kernel) ?_
                refine jx_icmp_ne (tgt := 127) hx_ hb_ h_ dX5_findHoles_116 (by decide) (fun h_ => ?_) (fun h_ => ?_)
                · refine lv_iconst (v := jI 1) hx_ hb_ dX5_findHoles_127 (by decide +kernel) ?_
                  refine lv_iload_n hx_ hb_ dX5_findHoles_128 rfl (lv_at hl_ 2 rfl) ?_
                  refine lv_iconst (v := jI 1) hx_ hb_ dX5_findHoles_129 (by decide +kernel) ?_
                  refine jx_iadd hx_ hb_ dX5_findHoles_130 ?_
                  refine jx_ishl hx_ hb_ dX5_findHoles_131 ?_
                  exact hJ132 _ _ _ ls h_ hP_ hD_ hS_ (lv_sub hl_ [0, 1] rfl)
                · refine lv_iconst (v := jI 1) hx_ hb_ dX5_findHoles_119 (by decide +kernel) ?_
                  refine lv_iload_n hx_ hb_ dX5_findHoles_120 rfl (lv_at hl_ 2 rfl) ?_
                  refine lv_iconst (v := jI 1) hx_ hb_ dX5_findHoles_121 (by decide +kernel) ?_
                  refine jx_isub hx_ hb_ dX5_findHoles_122 ?_
                  refine jx_ishl hx_ hb_ dX5_findHoles_123 ?_
                  refine lv_goto (tgt := 132) hx_ hb_ dX5_findHoles_124 (by decide) ?_
                  exact hJ132 _ _ _ ls h_ hP_ hD_ hS_ (lv_sub hl_ [0, 1] rfl)
              · refine lv_iconst (v := jI 0) hx_ hb_ dX5_findHoles_109 (by decide +kernel) ?_
                refine lv_goto (tgt := 132) hx_ hb_ dX5_findHoles_110 (by decide) ?_
                exact hJ132 _ _ _ ls h_ hP_ hD_ hS_ (lv_sub hl_ [0, 1] rfl)
            have hL47 : ∀ n47 : Nat, ∀ (ho_m11 : Int → Int) (v12 : Int) (H : Heap) (locs : List Loc) (ls : Array Slot), f_X5_findHoles_L47 fu stf v4 v5 (f_X5_findHoles_X88 fu stf v4 v5 (f_X5_findHoles_L23 fu stf (f_X5_findHoles_X140 fu) n23)) n47 ho_m11 v12 = some q_ho → va_P D vwCl [(wMo y a rc is_ pd pn ho_m11 eh mv at_ tk fs lt ea), (wAr y (a 6) 205 stf), (wAr y (a 7) 205 kpf), (wAr y (a 8) 1230 hsf), (wAr y (a 9) 410 slf)].flatten H → va_D A [(wMo y a rc is_ pd pn ho_m11 eh mv at_ tk fs lt ea), (wAr y (a 6) 205 stf), (wAr y (a 7) 205 kpf), (wAr y (a 8) 1230 hsf), (wAr y (a 9) 410 slf)].flatten → va_S A s.heap H locs → lv_has ls 4 [(0, .ref (a 0)), (1, .int (jI v4)), (2, .int (jI v5)), (3, .int (jI v12))] → W p l e R s m args below meth c H locs 0 0 Q (F0 m 47 ls []) := by
              intro n47
              induction n47 with
              | zero => intro _ _ H locs ls h_; have h_ : (none : Option ((Int → Int))) = some q_ho := h_; cases h_
              | succ n47 ih47 =>
                intro ho_m11 v12 H locs ls h_ hP_ hD_ hS_ hl_
                replace h_ : f_X5_findHoles_L47_b fu stf v4 v5 (f_X5_findHoles_X88 fu stf v4 v5 (f_X5_findHoles_L23 fu stf (f_X5_findHoles_X140 fu) n23)) (f_X5_findHoles_L47 fu stf v4 v5 (f_X5_findHoles_X88 fu stf v4 v5 (f_X5_findHoles_L23 fu stf (f_X5_findHoles_X140 fu) n23)) n47) ho_m11 v12 = some q_ho := h_
                unfold f_X5_findHoles_L47_b at h_
                refine lv_iload_n hx_ hb_ dX5_findHoles_47 rfl (lv_at hl_ 3 rfl) ?_
                refine lv_aload_n hx_ hb_ dX5_findHoles_48 rfl (lv_at hl_ 0 rfl) ?_
                refine lv_iload_n hx_ hb_ dX5_findHoles_49 rfl (lv_at hl_ 1 rfl) ?_
                refine lv_iconst (v := jI 2) hx_ hb_ dX5_findHoles_50 (by decide +kernel) ?_
                obtain ⟨v13, hv13, h_⟩ := jb_i h_
                refine jx_cvi (wr := []) (cw := [(wMo y a rc is_ pd pn ho_m11 eh mv at_ tk fs lt ea), (wAr y (a 6) 205 stf), (wAr y (a 7) 205 kpf), (wAr y (a 8) 1230 hsf), (wAr y (a 9) 410 slf)]) (cw1 := [(wMo y a rc is_ pd pn ho_m11 eh mv at_ tk fs lt ea), (wAr y (a 6) 205 stf), (wAr y (a 7) 205 kpf), (wAr y (a 8) 1230 hsf), (wAr y (a 9) 410 slf)]) (cs1 := [(wMo y a rc is_ pd pn ho_m11 eh mv at_ tk fs lt ea), (wAr y (a 6) 205 stf), (wAr y (a 7) 205 kpf), (wAr y (a 8) 1230 hsf), (wAr y (a 9) 410 slf)]) (As := [.int (jI v4), .int (jI 2)]) (rest := [.int (jI v12)]) ⟨hx_, hb_, hml_, hown_, hts_⟩ hM_ hP_ hD_ hS_ hA_ (List.Perm.refl _) (List.Perm.refl _) (c_X5_part l D y z a rc is_ pd pn ho_m11 eh mv at_ tk fs lt ea stf kpf hsf slf v4 2 fu v13 hv13) 2 gX5_findHoles_X5_part rfl ⟨rfl, rfl⟩ (by decide +kernel) ⟨by rw [hR_]; exact Nat.le_of_ble_eq_true rfl, by rw [hR_]; exact Nat.le_of_ble_eq_true rfl⟩ 0 5 rfl rfl rfl rfl rfl hl_.1 (Nat.le_of_ble_eq_true rfl) dX5_findHoles_51 ⟨Nat.zero_le _, Nat.zero_le _⟩ (fun H locs hP_ hD_ hS_ => ?_)
                refine jx_icmp_gt (tgt := 88) hx_ hb_ h_ dX5_findHoles_54 (by decide) (fun h_ => ?_) (fun h_ => ?_)
                · exact hX88 _ _ _ ls h_ hP_ hD_ hS_ (lv_sub hl_ [0, 1, 2] rfl)
                · refine lv_aload_n hx_ hb_ dX5_findHoles_57 rfl (lv_at hl_ 0 rfl) ?_
                  refine va_get (D := D) (ci := 5) (v := .ref (a 3)) (C := RX5) (T := TX5) (N := 16) hx_ hb_ hts_ hin_ hown_ hM_.1 hP_ 0 rfl rfl 8 (by decide) (hts_ (.fieldLink RX5 28 "MusicHolesModel" "holes" "[I") (by decide +kernel)) (fun _ h9_ => h9_) rfl dX5_findHoles_58 ?_
                  refine lv_iload_n hx_ hb_ dX5_findHoles_61 rfl (lv_at hl_ 3 rfl) ?_
                  refine lv_dup2_11 hx_ hb_ dX5_findHoles_62 rfl rfl ?_
                  refine jx_iald hx_ hb_ hM_ hP_ 3 0 rfl rfl rfl (Nat.le_of_ble_eq_true rfl) h_ dX5_findHoles_63 (fun h_ => ?_)
                  refine lv_aload_n hx_ hb_ dX5_findHoles_64 rfl (lv_at hl_ 0 rfl) ?_
                  refine lv_iload_n hx_ hb_ dX5_findHoles_65 rfl (lv_at hl_ 1 rfl) ?_
                  refine lv_iload_n hx_ hb_ dX5_findHoles_66 rfl (lv_at hl_ 3 rfl) ?_
                  obtain ⟨v14, hv14, h_⟩ := jb_i h_
                  refine jx_cvi (wr := []) (cw := [(wMo y a rc is_ pd pn ho_m11 eh mv at_ tk fs lt ea), (wAr y (a 6) 205 stf), (wAr y (a 7) 205 kpf), (wAr y (a 8) 1230 hsf), (wAr y (a 9) 410 slf)]) (cw1 := [(wMo y a rc is_ pd pn ho_m11 eh mv at_ tk fs lt ea), (wAr y (a 6) 205 stf), (wAr y (a 7) 205 kpf), (wAr y (a 8) 1230 hsf), (wAr y (a 9) 410 slf)]) (cs1 := [(wMo y a rc is_ pd pn ho_m11 eh mv at_ tk fs lt ea), (wAr y (a 6) 205 stf), (wAr y (a 7) 205 kpf), (wAr y (a 8) 1230 hsf), (wAr y (a 9) 410 slf)]) (As := [.int (jI v4), .int (jI v12)]) (rest := [.int (jI (ho_m11 v12)), .int (jI v12), .ref (a 3)]) ⟨hx_, hb_, hml_, hown_, hts_⟩ hM_ hP_ hD_ hS_ hA_ (List.Perm.refl _) (List.Perm.refl _) (c_X5_isHole l D y z a rc is_ pd pn ho_m11 eh mv at_ tk fs lt ea stf kpf hsf slf v4 v12 fu v14 hv14) 2 gX5_findHoles_X5_isHole rfl ⟨rfl, rfl⟩ (by decide +kernel) ⟨by rw [hR_]; exact Nat.le_of_ble_eq_true rfl, by rw [hR_]; exact Nat.le_of_ble_eq_true rfl⟩ 0 5 rfl rfl rfl rfl rfl hl_.1 (Nat.le_of_ble_eq_true rfl) dX5_findHoles_67 ⟨Nat.zero_le _, Nat.zero_le _⟩ (fun H locs hP_ hD_ hS_ => ?_)
                  have hJ80 : ∀ (v15 : Int) (H : Heap) (locs : List Loc) (ls : Array Slot), f_X5_findHoles_J80 fu ho_m11 v12 (f_X5_findHoles_L47 fu stf v4 v5 (f_X5_findHoles_X88 fu stf v4 v5 (f_X5_findHoles_L23 fu stf (f_X5_findHoles_X140 fu) n23)) n47) v15 = some q_ho → va_P D vwCl [(wMo y a rc is_ pd pn ho_m11 eh mv at_ tk fs lt ea), (wAr y (a 6) 205 stf), (wAr y (a 7) 205 kpf), (wAr y (a 8) 1230 hsf), (wAr y (a 9) 410 slf)].flatten H → va_D A [(wMo y a rc is_ pd pn ho_m11 eh mv at_ tk fs lt ea), (wAr y (a 6) 205 stf), (wAr y (a 7) 205 kpf), (wAr y (a 8) 1230 hsf), (wAr y (a 9) 410 slf)].flatten → va_S A s.heap H locs → lv_has ls 4 [(0, .ref (a 0)), (1, .int (jI v4)), (2, .int (jI v5)), (3, .int (jI v12))] → W p l e R s m args below meth c H locs 0 0 Q (F0 m 80 ls [.int (jI v15), .int (jI (ho_m11 v12)), .int (jI v12), .ref (a 3)]) := by
                    intro v15 H locs ls h_ hP_ hD_ hS_ hl_
                    unfold f_X5_findHoles_J80 at h_
                    refine jx_ior hx_ hb_ dX5_findHoles_80 ?_
                    refine jx_iast hx_ hb_ hM_ hP_ hD_ hS_ 3 0 rfl rfl rfl (Nat.le_of_ble_eq_true rfl) h_ dX5_findHoles_81 (fun H locs h_ hP_ hD_ hS_ => ?_)
                    have hP_ : va_P D vwCl [(wMo y a rc is_ pd pn (uI ho_m11 v12 (jor (ho_m11 v12) v15)) eh mv at_ tk fs lt ea), (wAr y (a 6) 205 stf), (wAr y (a 7) 205 kpf), (wAr y (a 8) 1230 hsf), (wAr y (a 9) 410 slf)].flatten H := hP_
                    have hD_ : va_D A [(wMo y a rc is_ pd pn (uI ho_m11 v12 (jor (ho_m11 v12) v15)) eh mv at_ tk fs lt ea), (wAr y (a 6) 205 stf), (wAr y (a 7) 205 kpf), (wAr y (a 8) 1230 hsf), (wAr y (a 9) 410 slf)].flatten := hD_
                    refine lv_iinc (v := jI (v12 + 1)) (lv' := [(3, .int (jI (v12 + 1))), (0, .ref (a 0)), (1, .int (jI v4)), (2, .int (jI v5))]) hx_ hb_ dX5_findHoles_82 hl_ (k := 3) rfl (jI_add _ _) (by decide) rfl (fun ls hl_ => ?_)
                    refine lv_goto (tgt := 47) hx_ hb_ dX5_findHoles_85 (by decide) ?_
                    exact ih47 _ _ _ _ ls h_ hP_ hD_ hS_ (lv_sub hl_ [1, 2, 3, 0] rfl)
                  refine jx_if_eq (tgt := 79) hx_ hb_ h_ dX5_findHoles_70 (by decide) (fun h_ => ?_) (fun h_ => ?_)
                  · refine lv_iconst (v := jI 0) hx_ hb_ dX5_findHoles_79 (by decide +kernel) ?_
                    exact hJ80 _ _ _ ls h_ hP_ hD_ hS_ (lv_sub hl_ [0, 1, 2, 3] rfl)
                  · refine lv_iconst (v := jI 1) hx_ hb_ dX5_findHoles_73 (by decide +kernel) ?_
                    refine lv_iload_n hx_ hb_ dX5_findHoles_74 rfl (lv_at hl_ 2 rfl) ?_
                    refine jx_ishl hx_ hb_ dX5_findHoles_75 ?_
                    refine lv_goto (tgt := 80) hx_ hb_ dX5_findHoles_76 (by decide) ?_
                    exact hJ80 _ _ _ ls h_ hP_ hD_ hS_ (lv_sub hl_ [0, 1, 2, 3] rfl)
            exact hL47 fu _ _ _ _ ls h_ hP_ hD_ hS_ (lv_sub hl_ [2, 3, 1, 0] rfl)
      exact hL23 fu _ _ _ _ ls h_ hP_ hD_ hS_ (lv_sub hl_ [1, 0] rfl)
    have hL2 : ∀ n2 : Nat, ∀ (ho_m16 : Int → Int) (v17 : Int) (H : Heap) (locs : List Loc) (ls : Array Slot), f_X5_findHoles_L2 fu (f_X5_findHoles_X21 fu stf) n2 ho_m16 v17 = some q_ho → va_P D vwCl [(wMo y a rc is_ pd pn ho_m16 eh mv at_ tk fs lt ea), (wAr y (a 6) 205 stf), (wAr y (a 7) 205 kpf), (wAr y (a 8) 1230 hsf), (wAr y (a 9) 410 slf)].flatten H → va_D A [(wMo y a rc is_ pd pn ho_m16 eh mv at_ tk fs lt ea), (wAr y (a 6) 205 stf), (wAr y (a 7) 205 kpf), (wAr y (a 8) 1230 hsf), (wAr y (a 9) 410 slf)].flatten → va_S A s.heap H locs → lv_has ls 4 [(0, .ref (a 0)), (1, .int (jI v17))] → W p l e R s m args below meth c H locs 0 0 Q (F0 m 2 ls []) := by
      intro n2
      induction n2 with
      | zero => intro _ _ H locs ls h_; have h_ : (none : Option ((Int → Int))) = some q_ho := h_; cases h_
      | succ n2 ih2 =>
        intro ho_m16 v17 H locs ls h_ hP_ hD_ hS_ hl_
        replace h_ : f_X5_findHoles_L2_b fu (f_X5_findHoles_X21 fu stf) (f_X5_findHoles_L2 fu (f_X5_findHoles_X21 fu stf) n2) ho_m16 v17 = some q_ho := h_
        unfold f_X5_findHoles_L2_b at h_
        refine lv_iload_n hx_ hb_ dX5_findHoles_2 rfl (lv_at hl_ 1 rfl) ?_
        refine lv_bipush (v := jI 100) hx_ hb_ dX5_findHoles_3 (by decide +kernel) ?_
        refine jx_icmp_ge (tgt := 21) hx_ hb_ h_ dX5_findHoles_5 (by decide) (fun h_ => ?_) (fun h_ => ?_)
        · exact hX21 _ _ _ ls h_ hP_ hD_ hS_ (lv_sub hl_ [0] rfl)
        · refine lv_aload_n hx_ hb_ dX5_findHoles_8 rfl (lv_at hl_ 0 rfl) ?_
          refine va_get (D := D) (ci := 5) (v := .ref (a 3)) (C := RX5) (T := TX5) (N := 16) hx_ hb_ hts_ hin_ hown_ hM_.1 hP_ 0 rfl rfl 8 (by decide) (hts_ (.fieldLink RX5 28 "MusicHolesModel" "holes" "[I") (by decide +kernel)) (fun _ h9_ => h9_) rfl dX5_findHoles_9 ?_
          refine lv_iload_n hx_ hb_ dX5_findHoles_12 rfl (lv_at hl_ 1 rfl) ?_
          refine lv_iconst (v := jI 0) hx_ hb_ dX5_findHoles_13 (by decide +kernel) ?_
          refine jx_iast hx_ hb_ hM_ hP_ hD_ hS_ 3 0 rfl rfl rfl (Nat.le_of_ble_eq_true rfl) h_ dX5_findHoles_14 (fun H locs h_ hP_ hD_ hS_ => ?_)
          have hP_ : va_P D vwCl [(wMo y a rc is_ pd pn (uI ho_m16 v17 0) eh mv at_ tk fs lt ea), (wAr y (a 6) 205 stf), (wAr y (a 7) 205 kpf), (wAr y (a 8) 1230 hsf), (wAr y (a 9) 410 slf)].flatten H := hP_
          have hD_ : va_D A [(wMo y a rc is_ pd pn (uI ho_m16 v17 0) eh mv at_ tk fs lt ea), (wAr y (a 6) 205 stf), (wAr y (a 7) 205 kpf), (wAr y (a 8) 1230 hsf), (wAr y (a 9) 410 slf)].flatten := hD_
          refine lv_iinc (v := jI (v17 + 1)) (lv' := [(1, .int (jI (v17 + 1))), (0, .ref (a 0))]) hx_ hb_ dX5_findHoles_15 hl_ (k := 1) rfl (jI_add _ _) (by decide) rfl (fun ls hl_ => ?_)
          refine lv_goto (tgt := 2) hx_ hb_ dX5_findHoles_18 (by decide) ?_
          exact ih2 _ _ _ _ ls h_ hP_ hD_ hS_ (lv_sub hl_ [1, 0] rfl)
    exact hL2 fu _ _ _ _ ls h_ hP_ hD_ hS_ (lv_sub hl_ [1, 0] rfl)
  exact key_ _ (fun ho9 H locs pc ls h9_ hdg_ hP_ hD_ hS_ => by cases h9_; exact jend_v hx_ hb_ hr_ hlocks_ hP_ hD_ hS_ hdg_)
def rm_X5_findHeard : Room := { frames := 3, cells := 0, slots := 0, locals := 68 }
set_option maxRecDepth 100000 in
set_option maxHeartbeats 8000000 in
theorem c_X5_findHeard (l : Launch) (D : va_G) (y : Nat → ClassId) (z : Nat → Nat) (a : Nat → Nat) (rc : Int) (is_ : Int → Int) (pd : Int → Int) (pn : Int) (ho : Int → Int) (eh : Int → Int) (mv : Int → Int) (at_ : Int) (tk : Int) (fs : Int) (lt : Int) (ea : Int) (stf : Int → Int) (kpf : Int → Int) (hsf : Int → Int) (slf : Int → Int)  (fu : Nat) (q_ho : Int → Int) (q_eh : Int → Int) (h_ : f_X5_findHeard fu ho eh stf = some (q_ho, q_eh)) : jCV l D y z yX5_findHeard wsX5_findHeard rm_X5_findHeard [.ref (a 0)] [(wMo y a rc is_ pd pn ho eh mv at_ tk fs lt ea), (wAr y (a 6) 205 stf), (wAr y (a 7) 205 kpf), (wAr y (a 8) 1230 hsf), (wAr y (a 9) 410 slf)] [(wMo y a rc is_ pd pn q_ho q_eh mv at_ tk fs lt ea), (wAr y (a 6) 205 stf), (wAr y (a 7) 205 kpf), (wAr y (a 8) 1230 hsf), (wAr y (a 9) 410 slf)] := by
  intro sz
  refine jmet (Qc := (fun A => va_Qv (fun (_ : Unit) => True) (jB D A [(wMo y a rc is_ pd pn q_ho q_eh mv at_ tk fs lt ea), (wAr y (a 6) 205 stf), (wAr y (a 7) 205 kpf), (wAr y (a 8) 1230 hsf), (wAr y (a 9) 410 slf)]) A)) (cc := cX5_findHeard) (maxL := 3) (ret := none) (own := RX5) (by decide) rfl (Nat.le_of_ble_eq_true rfl) rfl (fun p e s m R args below meth c A ls hR_ hargs_ hx_ hb_ hr_ hlocks_ hml_ hown_ hts_ hname_ hsz_ hP_ hD_ hA_ hM_ hl_ => ?_)
  have key_ : ∀ Q : State → Prop, (∀ (ho9 : Int → Int) (eh9 : Int → Int) (H : Heap) (locs : List Loc) (pc : Nat) (ls : Array Slot), some (ho9, eh9) = some (q_ho, q_eh) → decode cX5_findHeard pc = .ok (.return_, 1) → va_P D vwCl [(wMo y a rc is_ pd pn ho9 eh9 mv at_ tk fs lt ea), (wAr y (a 6) 205 stf), (wAr y (a 7) 205 kpf), (wAr y (a 8) 1230 hsf), (wAr y (a 9) 410 slf)].flatten H → va_D A [(wMo y a rc is_ pd pn ho9 eh9 mv at_ tk fs lt ea), (wAr y (a 6) 205 stf), (wAr y (a 7) 205 kpf), (wAr y (a 8) 1230 hsf), (wAr y (a 9) 410 slf)].flatten → va_S A s.heap H locs → W p l e R s m args below meth c H locs 0 0 Q (F0 m pc ls [])) → W p l e R s m args below meth c s.heap [] 0 0 Q (F0 m 0 ls []) := by
    intro Q hE_
    have hS_ : va_S A s.heap s.heap [] := va_S.rf
    have hl_ : lv_has ls 3 [(0, .ref (a 0))] := hl_
    have hin_ : ∀ w ∈ u_ws RX5 TX5 16, w ∈ wsX5_findHeard := by decide +kernel
    unfold f_X5_findHeard at h_
    refine lv_aload_n hx_ hb_ dX5_findHeard_0 rfl (lv_at hl_ 0 rfl) ?_
    obtain ⟨ho_m1, hho_m1, h_⟩ := jb_i h_
    refine jx_cvv (rv := 0) (wr := []) (cw := [(wMo y a rc is_ pd pn ho eh mv at_ tk fs lt ea), (wAr y (a 6) 205 stf), (wAr y (a 7) 205 kpf), (wAr y (a 8) 1230 hsf), (wAr y (a 9) 410 slf)]) (cw1 := [(wMo y a rc is_ pd pn ho_m1 eh mv at_ tk fs lt ea), (wAr y (a 6) 205 stf), (wAr y (a 7) 205 kpf), (wAr y (a 8) 1230 hsf), (wAr y (a 9) 410 slf)]) (cs1 := [(wMo y a rc is_ pd pn ho_m1 eh mv at_ tk fs lt ea), (wAr y (a 6) 205 stf), (wAr y (a 7) 205 kpf), (wAr y (a 8) 1230 hsf), (wAr y (a 9) 410 slf)]) (As := []) (rest := []) ⟨hx_, hb_, hml_, hown_, hts_⟩ hM_ hP_ hD_ hS_ hA_ (List.Perm.refl _) (List.Perm.refl _) (c_X5_findHoles l D y z a rc is_ pd pn ho eh mv at_ tk fs lt ea stf kpf hsf slf fu ho_m1 hho_m1) 0 gX5_findHeard_X5_findHoles rfl ⟨rfl, rfl⟩ (by decide +kernel) ⟨by rw [hR_]; exact Nat.le_of_ble_eq_true rfl, by rw [hR_]; exact Nat.le_of_ble_eq_true rfl⟩ 0 5 rfl rfl rfl rfl rfl hl_.1 (Nat.le_of_ble_eq_true rfl) dX5_findHeard_1 ⟨Nat.zero_le _, Nat.zero_le _⟩ (fun H locs hP_ hD_ hS_ => ?_)
    refine lv_iconst (v := jI 0) hx_ hb_ dX5_findHeard_4 (by decide +kernel) ?_
    refine lv_istore_n (lv' := [(1, .int (jI 0)), (0, .ref (a 0))]) hx_ hb_ dX5_findHeard_5 rfl hl_ (by decide) rfl (fun ls hl_ => ?_)
    have hX65 : ∀ (ho_m2 : Int → Int) (eh_m3 : Int → Int) (H : Heap) (locs : List Loc) (ls : Array Slot), f_X5_findHeard_X65 fu ho_m2 eh_m3 = some (q_ho, q_eh) → va_P D vwCl [(wMo y a rc is_ pd pn ho_m2 eh_m3 mv at_ tk fs lt ea), (wAr y (a 6) 205 stf), (wAr y (a 7) 205 kpf), (wAr y (a 8) 1230 hsf), (wAr y (a 9) 410 slf)].flatten H → va_D A [(wMo y a rc is_ pd pn ho_m2 eh_m3 mv at_ tk fs lt ea), (wAr y (a 6) 205 stf), (wAr y (a 7) 205 kpf), (wAr y (a 8) 1230 hsf), (wAr y (a 9) 410 slf)].flatten → va_S A s.heap H locs → lv_has ls 3 [] → W p l e R s m args below meth c H locs 0 0 Q (F0 m 65 ls []) := by
      intro ho_m2 eh_m3 H locs ls h_ hP_ hD_ hS_ hl_
      unfold f_X5_findHeard_X65 at h_
      exact hE_ _ _ _ _ _ _ h_ dX5_findHeard_65 hP_ hD_ hS_
    have hL6 : ∀ n6 : Nat, ∀ (ho_m4 : Int → Int) (eh_m5 : Int → Int) (v6 : Int) (H : Heap) (locs : List Loc) (ls : Array Slot), f_X5_findHeard_L6 fu stf (f_X5_findHeard_X65 fu) n6 ho_m4 eh_m5 v6 = some (q_ho, q_eh) → va_P D vwCl [(wMo y a rc is_ pd pn ho_m4 eh_m5 mv at_ tk fs lt ea), (wAr y (a 6) 205 stf), (wAr y (a 7) 205 kpf), (wAr y (a 8) 1230 hsf), (wAr y (a 9) 410 slf)].flatten H → va_D A [(wMo y a rc is_ pd pn ho_m4 eh_m5 mv at_ tk fs lt ea), (wAr y (a 6) 205 stf), (wAr y (a 7) 205 kpf), (wAr y (a 8) 1230 hsf), (wAr y (a 9) 410 slf)].flatten → va_S A s.heap H locs → lv_has ls 3 [(0, .ref (a 0)), (1, .int (jI v6))] → W p l e R s m args below meth c H locs 0 0 Q (F0 m 6 ls []) := by
      intro n6
      induction n6 with
      | zero => intro _ _ _ H locs ls h_; have h_ : (none : Option ((Int → Int) × (Int → Int))) = some (q_ho, q_eh) := h_; cases h_
      | succ n6 ih6 =>
        intro ho_m4 eh_m5 v6 H locs ls h_ hP_ hD_ hS_ hl_
        replace h_ : f_X5_findHeard_L6_b fu stf (f_X5_findHeard_X65 fu) (f_X5_findHeard_L6 fu stf (f_X5_findHeard_X65 fu) n6) ho_m4 eh_m5 v6 = some (q_ho, q_eh) := h_
        unfold f_X5_findHeard_L6_b at h_
        refine lv_iload_n hx_ hb_ dX5_findHeard_6 rfl (lv_at hl_ 1 rfl) ?_
        refine lv_bipush (v := jI 100) hx_ hb_ dX5_findHeard_7 (by decide +kernel) ?_
        refine jx_icmp_ge (tgt := 65) hx_ hb_ h_ dX5_findHeard_9 (by decide) (fun h_ => ?_) (fun h_ => ?_)
        · exact hX65 _ _ _ _ ls h_ hP_ hD_ hS_ (lv_sub hl_ [] rfl)
        · refine lv_aload_n hx_ hb_ dX5_findHeard_12 rfl (lv_at hl_ 0 rfl) ?_
          refine va_get (D := D) (ci := 5) (v := .ref (a 4)) (C := RX5) (T := TX5) (N := 16) hx_ hb_ hts_ hin_ hown_ hM_.1 hP_ 0 rfl rfl 9 (by decide) (hts_ (.fieldLink RX5 31 "MusicHolesModel" "heard" "[I") (by decide +kernel)) (fun _ h9_ => h9_) rfl dX5_findHeard_13 ?_
          refine lv_iload_n hx_ hb_ dX5_findHeard_16 rfl (lv_at hl_ 1 rfl) ?_
          refine lv_iconst (v := jI 0) hx_ hb_ dX5_findHeard_17 (by decide +kernel) ?_
          refine jx_iast hx_ hb_ hM_ hP_ hD_ hS_ 4 0 rfl rfl rfl (Nat.le_of_ble_eq_true rfl) h_ dX5_findHeard_18 (fun H locs h_ hP_ hD_ hS_ => ?_)
          have hP_ : va_P D vwCl [(wMo y a rc is_ pd pn ho_m4 (uI eh_m5 v6 0) mv at_ tk fs lt ea), (wAr y (a 6) 205 stf), (wAr y (a 7) 205 kpf), (wAr y (a 8) 1230 hsf), (wAr y (a 9) 410 slf)].flatten H := hP_
          have hD_ : va_D A [(wMo y a rc is_ pd pn ho_m4 (uI eh_m5 v6 0) mv at_ tk fs lt ea), (wAr y (a 6) 205 stf), (wAr y (a 7) 205 kpf), (wAr y (a 8) 1230 hsf), (wAr y (a 9) 410 slf)].flatten := hD_
          refine lv_iconst (v := jI 0) hx_ hb_ dX5_findHeard_19 (by decide +kernel) ?_
          refine lv_istore_n (lv' := [(2, .int (jI 0)), (0, .ref (a 0)), (1, .int (jI v6))]) hx_ hb_ dX5_findHeard_20 rfl hl_ (by decide) rfl (fun ls hl_ => ?_)
          have hX59 : ∀ (ho_m7 : Int → Int) (eh_m8 : Int → Int) (H : Heap) (locs : List Loc) (ls : Array Slot), f_X5_findHeard_X59 fu v6 (f_X5_findHeard_L6 fu stf (f_X5_findHeard_X65 fu) n6) ho_m7 eh_m8 = some (q_ho, q_eh) → va_P D vwCl [(wMo y a rc is_ pd pn ho_m7 eh_m8 mv at_ tk fs lt ea), (wAr y (a 6) 205 stf), (wAr y (a 7) 205 kpf), (wAr y (a 8) 1230 hsf), (wAr y (a 9) 410 slf)].flatten H → va_D A [(wMo y a rc is_ pd pn ho_m7 eh_m8 mv at_ tk fs lt ea), (wAr y (a 6) 205 stf), (wAr y (a 7) 205 kpf), (wAr y (a 8) 1230 hsf), (wAr y (a 9) 410 slf)].flatten → va_S A s.heap H locs → lv_has ls 3 [(0, .ref (a 0)), (1, .int (jI v6))] → W p l e R s m args below meth c H locs 0 0 Q (F0 m 59 ls []) := by
            intro ho_m7 eh_m8 H locs ls h_ hP_ hD_ hS_ hl_
            unfold f_X5_findHeard_X59 at h_
            refine lv_iinc (v := jI (v6 + 1)) (lv' := [(1, .int (jI (v6 + 1))), (0, .ref (a 0))]) hx_ hb_ dX5_findHeard_59 hl_ (k := 1) rfl (jI_add _ _) (by decide) rfl (fun ls hl_ => ?_)
            refine lv_goto (tgt := 6) hx_ hb_ dX5_findHeard_62 (by decide) ?_
            exact ih6 _ _ _ _ _ ls h_ hP_ hD_ hS_ (lv_sub hl_ [1, 0] rfl)
          have hL21 : ∀ n21 : Nat, ∀ (ho_m9 : Int → Int) (eh_m10 : Int → Int) (v11 : Int) (H : Heap) (locs : List Loc) (ls : Array Slot), f_X5_findHeard_L21 fu stf v6 (f_X5_findHeard_X59 fu v6 (f_X5_findHeard_L6 fu stf (f_X5_findHeard_X65 fu) n6)) n21 ho_m9 eh_m10 v11 = some (q_ho, q_eh) → va_P D vwCl [(wMo y a rc is_ pd pn ho_m9 eh_m10 mv at_ tk fs lt ea), (wAr y (a 6) 205 stf), (wAr y (a 7) 205 kpf), (wAr y (a 8) 1230 hsf), (wAr y (a 9) 410 slf)].flatten H → va_D A [(wMo y a rc is_ pd pn ho_m9 eh_m10 mv at_ tk fs lt ea), (wAr y (a 6) 205 stf), (wAr y (a 7) 205 kpf), (wAr y (a 8) 1230 hsf), (wAr y (a 9) 410 slf)].flatten → va_S A s.heap H locs → lv_has ls 3 [(0, .ref (a 0)), (1, .int (jI v6)), (2, .int (jI v11))] → W p l e R s m args below meth c H locs 0 0 Q (F0 m 21 ls []) := by
            intro n21
            induction n21 with
            | zero => intro _ _ _ H locs ls h_; have h_ : (none : Option ((Int → Int) × (Int → Int))) = some (q_ho, q_eh) := h_; cases h_
            | succ n21 ih21 =>
              intro ho_m9 eh_m10 v11 H locs ls h_ hP_ hD_ hS_ hl_
              replace h_ : f_X5_findHeard_L21_b fu stf v6 (f_X5_findHeard_X59 fu v6 (f_X5_findHeard_L6 fu stf (f_X5_findHeard_X65 fu) n6)) (f_X5_findHeard_L21 fu stf v6 (f_X5_findHeard_X59 fu v6 (f_X5_findHeard_L6 fu stf (f_X5_findHeard_X65 fu) n6)) n21) ho_m9 eh_m10 v11 = some (q_ho, q_eh) := h_
              unfold f_X5_findHeard_L21_b at h_
              refine lv_iload_n hx_ hb_ dX5_findHeard_21 rfl (lv_at hl_ 2 rfl) ?_
              refine lv_aload_n hx_ hb_ dX5_findHeard_22 rfl (lv_at hl_ 0 rfl) ?_
              refine va_get (D := D) (ci := 5) (v := .ref (a 6)) (C := RX5) (T := TX5) (N := 16) hx_ hb_ hts_ hin_ hown_ hM_.1 hP_ 0 rfl rfl 0 (by decide) (hts_ (.fieldLink RX5 7 "MusicHolesModel" "state" "[I") (by decide +kernel)) (fun _ h9_ => h9_) rfl dX5_findHeard_23 ?_
              refine lv_iconst (v := jI 2) hx_ hb_ dX5_findHeard_26 (by decide +kernel) ?_
              refine jx_iald hx_ hb_ hM_ hP_ 6 0 rfl rfl rfl (Nat.le_of_ble_eq_true rfl) h_ dX5_findHeard_27 (fun h_ => ?_)
              refine jx_icmp_gt (tgt := 59) hx_ hb_ h_ dX5_findHeard_28 (by decide) (fun h_ => ?_) (fun h_ => ?_)
              · exact hX59 _ _ _ _ ls h_ hP_ hD_ hS_ (lv_sub hl_ [0, 1] rfl)
              · refine lv_iload_n hx_ hb_ dX5_findHeard_31 rfl (lv_at hl_ 2 rfl) ?_
                refine lv_iload_n hx_ hb_ dX5_findHeard_32 rfl (lv_at hl_ 1 rfl) ?_
                refine jx_icmp_gt (tgt := 59) hx_ hb_ h_ dX5_findHeard_33 (by decide) (fun h_ => ?_) (fun h_ => ?_)
                · exact hX59 _ _ _ _ ls h_ hP_ hD_ hS_ (lv_sub hl_ [0, 1] rfl)
                · refine lv_aload_n hx_ hb_ dX5_findHeard_36 rfl (lv_at hl_ 0 rfl) ?_
                  refine va_get (D := D) (ci := 5) (v := .ref (a 4)) (C := RX5) (T := TX5) (N := 16) hx_ hb_ hts_ hin_ hown_ hM_.1 hP_ 0 rfl rfl 9 (by decide) (hts_ (.fieldLink RX5 31 "MusicHolesModel" "heard" "[I") (by decide +kernel)) (fun _ h9_ => h9_) rfl dX5_findHeard_37 ?_
                  refine lv_iload_n hx_ hb_ dX5_findHeard_40 rfl (lv_at hl_ 1 rfl) ?_
                  refine lv_dup2_11 hx_ hb_ dX5_findHeard_41 rfl rfl ?_
                  refine jx_iald hx_ hb_ hM_ hP_ 4 0 rfl rfl rfl (Nat.le_of_ble_eq_true rfl) h_ dX5_findHeard_42 (fun h_ => ?_)
                  refine lv_aload_n hx_ hb_ dX5_findHeard_43 rfl (lv_at hl_ 0 rfl) ?_
                  refine va_get (D := D) (ci := 5) (v := .ref (a 3)) (C := RX5) (T := TX5) (N := 16) hx_ hb_ hts_ hin_ hown_ hM_.1 hP_ 0 rfl rfl 8 (by decide) (hts_ (.fieldLink RX5 28 "MusicHolesModel" "holes" "[I") (by decide +kernel)) (fun _ h9_ => h9_) rfl dX5_findHeard_44 ?_
                  refine lv_iload_n hx_ hb_ dX5_findHeard_47 rfl (lv_at hl_ 1 rfl) ?_
                  refine lv_iload_n hx_ hb_ dX5_findHeard_48 rfl (lv_at hl_ 2 rfl) ?_
                  refine jx_isub hx_ hb_ dX5_findHeard_49 ?_
                  refine jx_iald hx_ hb_ hM_ hP_ 3 0 rfl rfl rfl (Nat.le_of_ble_eq_true rfl) h_ dX5_findHeard_50 (fun h_ => ?_)
                  refine jx_ior hx_ hb_ dX5_findHeard_51 ?_
                  refine jx_iast hx_ hb_ hM_ hP_ hD_ hS_ 4 0 rfl rfl rfl (Nat.le_of_ble_eq_true rfl) h_ dX5_findHeard_52 (fun H locs h_ hP_ hD_ hS_ => ?_)
                  have hP_ : va_P D vwCl [(wMo y a rc is_ pd pn ho_m9 (uI eh_m10 v6 (jor (eh_m10 v6) (ho_m9 (v6 - v11)))) mv at_ tk fs lt ea), (wAr y (a 6) 205 stf), (wAr y (a 7) 205 kpf), (wAr y (a 8) 1230 hsf), (wAr y (a 9) 410 slf)].flatten H := hP_
                  have hD_ : va_D A [(wMo y a rc is_ pd pn ho_m9 (uI eh_m10 v6 (jor (eh_m10 v6) (ho_m9 (v6 - v11)))) mv at_ tk fs lt ea), (wAr y (a 6) 205 stf), (wAr y (a 7) 205 kpf), (wAr y (a 8) 1230 hsf), (wAr y (a 9) 410 slf)].flatten := hD_
                  refine lv_iinc (v := jI (v11 + 1)) (lv' := [(2, .int (jI (v11 + 1))), (0, .ref (a 0)), (1, .int (jI v6))]) hx_ hb_ dX5_findHeard_53 hl_ (k := 2) rfl (jI_add _ _) (by decide) rfl (fun ls hl_ => ?_)
                  refine lv_goto (tgt := 21) hx_ hb_ dX5_findHeard_56 (by decide) ?_
                  exact ih21 _ _ _ _ _ ls h_ hP_ hD_ hS_ (lv_sub hl_ [1, 2, 0] rfl)
          exact hL21 fu _ _ _ _ _ ls h_ hP_ hD_ hS_ (lv_sub hl_ [1, 2, 0] rfl)
    exact hL6 fu _ _ _ _ _ ls h_ hP_ hD_ hS_ (lv_sub hl_ [1, 0] rfl)
  exact key_ _ (fun ho9 eh9 H locs pc ls h9_ hdg_ hP_ hD_ hS_ => by cases h9_; exact jend_v hx_ hb_ hr_ hlocks_ hP_ hD_ hS_ hdg_)
def rm_X5_sideBySide : Room := { frames := 0, cells := 0, slots := 0, locals := 0 }
set_option maxRecDepth 100000 in
set_option maxHeartbeats 8000000 in
theorem c_X5_sideBySide (l : Launch) (D : va_G) (y : Nat → ClassId) (z : Nat → Nat)   (x0 : Int) (fu : Nat) (rr : Int) (h_ : f_X5_sideBySide fu x0 = some rr) : jCI l D y z yX5_sideBySide wsX5_sideBySide rm_X5_sideBySide [.int (jI x0)] [] [] rr := by
  intro sz
  refine jmet (Qc := (fun A => va_Qi (fun v (_ : Unit) => v = jI rr) (jB D A []) A)) (cc := cX5_sideBySide) (maxL := 4) (ret := (some .int)) (own := RX5) (by decide) rfl (Nat.le_of_ble_eq_true rfl) rfl (fun p e s m R args below meth c A ls hR_ hargs_ hx_ hb_ hr_ hlocks_ hml_ hown_ hts_ hname_ hsz_ hP_ hD_ hA_ hM_ hl_ => ?_)
  have key_ : ∀ Q : State → Prop, (∀ (v9 : Int) (H : Heap) (locs : List Loc) (pc : Nat) (ls : Array Slot), some v9 = some rr → decode cX5_sideBySide pc = .ok (.ireturn, 1) → va_P D vwCl [].flatten H → va_D A [].flatten → va_S A s.heap H locs → W p l e R s m args below meth c H locs 0 0 Q (F0 m pc ls [.int (jI v9)])) → W p l e R s m args below meth c s.heap [] 0 0 Q (F0 m 0 ls []) := by
    intro Q hE_
    have hS_ : va_S A s.heap s.heap [] := va_S.rf
    have hl_ : lv_has ls 4 [(0, .int (jI x0))] := hl_
    unfold f_X5_sideBySide at h_
    refine lv_iconst (v := jI 0) hx_ hb_ dX5_sideBySide_0 (by decide +kernel) ?_
    refine lv_istore_n (lv' := [(1, .int (jI 0)), (0, .int (jI x0))]) hx_ hb_ dX5_sideBySide_1 rfl hl_ (by decide) rfl (fun ls hl_ => ?_)
    refine lv_iconst (v := jI 0) hx_ hb_ dX5_sideBySide_2 (by decide +kernel) ?_
    refine lv_istore_n (lv' := [(2, .int (jI 0)), (1, .int (jI 0)), (0, .int (jI x0))]) hx_ hb_ dX5_sideBySide_3 rfl hl_ (by decide) rfl (fun ls hl_ => ?_)
    refine lv_iconst (v := jI 0) hx_ hb_ dX5_sideBySide_4 (by decide +kernel) ?_
    refine lv_istore_n (lv' := [(3, .int (jI 0)), (2, .int (jI 0)), (1, .int (jI 0)), (0, .int (jI x0))]) hx_ hb_ dX5_sideBySide_5 rfl hl_ (by decide) rfl (fun ls hl_ => ?_)
    have hX46 : ∀ (v1 : Int) (H : Heap) (locs : List Loc) (ls : Array Slot), f_X5_sideBySide_X46 fu v1 = some rr → va_P D vwCl [].flatten H → va_D A [].flatten → va_S A s.heap H locs → lv_has ls 4 [(1, .int (jI v1))] → W p l e R s m args below meth c H locs 0 0 Q (F0 m 46 ls []) := by
      intro v1 H locs ls h_ hP_ hD_ hS_ hl_
      unfold f_X5_sideBySide_X46 at h_
      refine lv_iload_n hx_ hb_ dX5_sideBySide_46 rfl (lv_at hl_ 0 rfl) ?_
      exact hE_ _ _ _ _ _ h_ dX5_sideBySide_47 hP_ hD_ hS_
    have hL6 : ∀ n6 : Nat, ∀ (v2 : Int) (v3 : Int) (v4 : Int) (H : Heap) (locs : List Loc) (ls : Array Slot), f_X5_sideBySide_L6 fu x0 (f_X5_sideBySide_X46 fu) n6 v2 v3 v4 = some rr → va_P D vwCl [].flatten H → va_D A [].flatten → va_S A s.heap H locs → lv_has ls 4 [(0, .int (jI x0)), (1, .int (jI v2)), (2, .int (jI v3)), (3, .int (jI v4))] → W p l e R s m args below meth c H locs 0 0 Q (F0 m 6 ls []) := by
      intro n6
      induction n6 with
      | zero => intro _ _ _ H locs ls h_; have h_ : (none : Option (Int)) = some rr := h_; cases h_
      | succ n6 ih6 =>
        intro v2 v3 v4 H locs ls h_ hP_ hD_ hS_ hl_
        replace h_ : f_X5_sideBySide_L6_b fu x0 (f_X5_sideBySide_X46 fu) (f_X5_sideBySide_L6 fu x0 (f_X5_sideBySide_X46 fu) n6) v2 v3 v4 = some rr := h_
        unfold f_X5_sideBySide_L6_b at h_
        refine lv_iload_n hx_ hb_ dX5_sideBySide_6 rfl (lv_at hl_ 3 rfl) ?_
        refine lv_bipush (v := jI 12) hx_ hb_ dX5_sideBySide_7 (by decide +kernel) ?_
        refine jx_icmp_ge (tgt := 46) hx_ hb_ h_ dX5_sideBySide_9 (by decide) (fun h_ => ?_) (fun h_ => ?_)
        · exact hX46 _ _ _ ls h_ hP_ hD_ hS_ (lv_sub hl_ [1] rfl)
        · refine lv_iload_n hx_ hb_ dX5_sideBySide_12 rfl (lv_at hl_ 0 rfl) ?_
          refine lv_iload_n hx_ hb_ dX5_sideBySide_13 rfl (lv_at hl_ 3 rfl) ?_
          refine jx_ishr hx_ hb_ dX5_sideBySide_14 ?_
          refine lv_iconst (v := jI 1) hx_ hb_ dX5_sideBySide_15 (by decide +kernel) ?_
          refine jx_iand hx_ hb_ dX5_sideBySide_16 ?_
          refine lv_iconst (v := jI 1) hx_ hb_ dX5_sideBySide_17 (by decide +kernel) ?_
          have hJ28 : ∀ (v5 : Int) (H : Heap) (locs : List Loc) (ls : Array Slot), f_X5_sideBySide_J28 fu v2 v4 (f_X5_sideBySide_L6 fu x0 (f_X5_sideBySide_X46 fu) n6) v5 = some rr → va_P D vwCl [].flatten H → va_D A [].flatten → va_S A s.heap H locs → lv_has ls 4 [(0, .int (jI x0)), (1, .int (jI v2)), (3, .int (jI v4))] → W p l e R s m args below meth c H locs 0 0 Q (F0 m 28 ls [.int (jI v5)]) := by
            intro v5 H locs ls h_ hP_ hD_ hS_ hl_
            unfold f_X5_sideBySide_J28 at h_
            refine lv_istore_n (lv' := [(2, .int (jI v5)), (0, .int (jI x0)), (1, .int (jI v2)), (3, .int (jI v4))]) hx_ hb_ dX5_sideBySide_28 rfl hl_ (by decide) rfl (fun ls hl_ => ?_)
            refine lv_iload_n hx_ hb_ dX5_sideBySide_29 rfl (lv_at hl_ 0 rfl) ?_
            refine lv_iload_n hx_ hb_ dX5_sideBySide_30 rfl (lv_at hl_ 2 rfl) ?_
            refine jx_icmp_le (tgt := 38) hx_ hb_ h_ dX5_sideBySide_31 (by decide) (fun h_ => ?_) (fun h_ => ?_)
            · refine lv_iload_n hx_ hb_ dX5_sideBySide_38 rfl (lv_at hl_ 2 rfl) ?_
              refine lv_istore_n (lv' := [(1, .int (jI v2)), (2, .int (jI v5)), (0, .int (jI x0)), (3, .int (jI v4))]) hx_ hb_ dX5_sideBySide_39 rfl hl_ (by decide) rfl (fun ls hl_ => ?_)
              refine lv_iinc (v := jI (v4 + 1)) (lv' := [(3, .int (jI (v4 + 1))), (1, .int (jI v2)), (2, .int (jI v5)), (0, .int (jI x0))]) hx_ hb_ dX5_sideBySide_40 hl_ (k := 3) rfl (jI_add _ _) (by decide) rfl (fun ls hl_ => ?_)
              refine lv_goto (tgt := 6) hx_ hb_ dX5_sideBySide_43 (by decide) ?_
              exact ih6 _ _ _ _ _ ls h_ hP_ hD_ hS_ (lv_sub hl_ [3, 1, 2, 0] rfl)
            · refine lv_iload_n hx_ hb_ dX5_sideBySide_34 rfl (lv_at hl_ 0 rfl) ?_
              refine lv_goto (tgt := 39) hx_ hb_ dX5_sideBySide_35 (by decide) ?_
              refine lv_istore_n (lv' := [(1, .int (jI v5)), (2, .int (jI v5)), (0, .int (jI x0)), (3, .int (jI v4))]) hx_ hb_ dX5_sideBySide_39 rfl hl_ (by decide) rfl (fun ls hl_ => ?_)
              refine lv_iinc (v := jI (v4 + 1)) (lv' := [(3, .int (jI (v4 + 1))), (1, .int (jI v5)), (2, .int (jI v5)), (0, .int (jI x0))]) hx_ hb_ dX5_sideBySide_40 hl_ (k := 3) rfl (jI_add _ _) (by decide) rfl (fun ls hl_ => ?_)
              refine lv_goto (tgt := 6) hx_ hb_ dX5_sideBySide_43 (by decide) ?_
              exact ih6 _ _ _ _ _ ls h_ hP_ hD_ hS_ (lv_sub hl_ [3, 1, 2, 0] rfl)
          refine jx_icmp_ne (tgt := 27) hx_ hb_ h_ dX5_sideBySide_18 (by decide) (fun h_ => ?_) (fun h_ => ?_)
          · refine lv_iconst (v := jI 0) hx_ hb_ dX5_sideBySide_27 (by decide +kernel) ?_
            exact hJ28 _ _ _ ls h_ hP_ hD_ hS_ (lv_sub hl_ [0, 1, 3] rfl)
          · refine lv_iload_n hx_ hb_ dX5_sideBySide_21 rfl (lv_at hl_ 2 rfl) ?_
            refine lv_iconst (v := jI 1) hx_ hb_ dX5_sideBySide_22 (by decide +kernel) ?_
            refine jx_iadd hx_ hb_ dX5_sideBySide_23 ?_
            refine lv_goto (tgt := 28) hx_ hb_ dX5_sideBySide_24 (by decide) ?_
            exact hJ28 _ _ _ ls h_ hP_ hD_ hS_ (lv_sub hl_ [0, 1, 3] rfl)
    exact hL6 fu _ _ _ _ _ ls h_ hP_ hD_ hS_ (lv_sub hl_ [3, 2, 1, 0] rfl)
  exact key_ _ (fun v9 H locs pc ls h9_ hdg_ hP_ hD_ hS_ => by cases h9_; exact jend_i hx_ hb_ hr_ hlocks_ hP_ hD_ hS_ hdg_)
def rm_X5_isWeak : Room := { frames := 1, cells := 0, slots := 0, locals := 23 }
set_option maxRecDepth 100000 in
set_option maxHeartbeats 8000000 in
theorem c_X5_isWeak (l : Launch) (D : va_G) (y : Nat → ClassId) (z : Nat → Nat) (a : Nat → Nat) (rc : Int) (is_ : Int → Int) (pd : Int → Int) (pn : Int) (ho : Int → Int) (eh : Int → Int) (mv : Int → Int) (at_ : Int) (tk : Int) (fs : Int) (lt : Int) (ea : Int) (stf : Int → Int) (kpf : Int → Int) (hsf : Int → Int) (slf : Int → Int) (x1 : Int) (fu : Nat) (rr : Int) (h_ : f_X5_isWeak fu ho stf x1 = some rr) : jCI l D y z yX5_isWeak wsX5_isWeak rm_X5_isWeak [.ref (a 0), .int (jI x1)] [(wMo y a rc is_ pd pn ho eh mv at_ tk fs lt ea), (wAr y (a 6) 205 stf), (wAr y (a 7) 205 kpf), (wAr y (a 8) 1230 hsf), (wAr y (a 9) 410 slf)] [(wMo y a rc is_ pd pn ho eh mv at_ tk fs lt ea), (wAr y (a 6) 205 stf), (wAr y (a 7) 205 kpf), (wAr y (a 8) 1230 hsf), (wAr y (a 9) 410 slf)] rr := by
  intro sz
  refine jmet (Qc := (fun A => va_Qi (fun v (_ : Unit) => v = jI rr) (jB D A [(wMo y a rc is_ pd pn ho eh mv at_ tk fs lt ea), (wAr y (a 6) 205 stf), (wAr y (a 7) 205 kpf), (wAr y (a 8) 1230 hsf), (wAr y (a 9) 410 slf)]) A)) (cc := cX5_isWeak) (maxL := 2) (ret := (some .boolean)) (own := RX5) (by decide) rfl (Nat.le_of_ble_eq_true rfl) rfl (fun p e s m R args below meth c A ls hR_ hargs_ hx_ hb_ hr_ hlocks_ hml_ hown_ hts_ hname_ hsz_ hP_ hD_ hA_ hM_ hl_ => ?_)
  have key_ : ∀ Q : State → Prop, (∀ (v9 : Int) (H : Heap) (locs : List Loc) (pc : Nat) (ls : Array Slot), some v9 = some rr → (v9 = 0 ∨ v9 = 1) → decode cX5_isWeak pc = .ok (.ireturn, 1) → va_P D vwCl [(wMo y a rc is_ pd pn ho eh mv at_ tk fs lt ea), (wAr y (a 6) 205 stf), (wAr y (a 7) 205 kpf), (wAr y (a 8) 1230 hsf), (wAr y (a 9) 410 slf)].flatten H → va_D A [(wMo y a rc is_ pd pn ho eh mv at_ tk fs lt ea), (wAr y (a 6) 205 stf), (wAr y (a 7) 205 kpf), (wAr y (a 8) 1230 hsf), (wAr y (a 9) 410 slf)].flatten → va_S A s.heap H locs → W p l e R s m args below meth c H locs 0 0 Q (F0 m pc ls [.int (jI v9)])) → W p l e R s m args below meth c s.heap [] 0 0 Q (F0 m 0 ls []) := by
    intro Q hE_
    have hS_ : va_S A s.heap s.heap [] := va_S.rf
    have hl_ : lv_has ls 2 [(0, .ref (a 0)), (1, .int (jI x1))] := hl_
    have hin_ : ∀ w ∈ u_ws RX5 TX5 16, w ∈ wsX5_isWeak := by decide +kernel
    unfold f_X5_isWeak at h_
    refine lv_aload_n hx_ hb_ dX5_isWeak_0 rfl (lv_at hl_ 0 rfl) ?_
    refine va_get (D := D) (ci := 5) (v := .ref (a 3)) (C := RX5) (T := TX5) (N := 16) hx_ hb_ hts_ hin_ hown_ hM_.1 hP_ 0 rfl rfl 8 (by decide) (hts_ (.fieldLink RX5 28 "MusicHolesModel" "holes" "[I") (by decide +kernel)) (fun _ h9_ => h9_) rfl dX5_isWeak_1 ?_
    refine lv_iload_n hx_ hb_ dX5_isWeak_4 rfl (lv_at hl_ 1 rfl) ?_
    refine jx_iald hx_ hb_ hM_ hP_ 3 0 rfl rfl rfl (Nat.le_of_ble_eq_true rfl) h_ dX5_isWeak_5 (fun h_ => ?_)
    obtain ⟨v1, hv1, h_⟩ := jb_i h_
    refine jx_csi (b := 0) (C := "") (wr := [(wMo y a rc is_ pd pn ho eh mv at_ tk fs lt ea), (wAr y (a 6) 205 stf), (wAr y (a 7) 205 kpf), (wAr y (a 8) 1230 hsf), (wAr y (a 9) 410 slf)]) (cw := []) (cw1 := []) (cs1 := [(wMo y a rc is_ pd pn ho eh mv at_ tk fs lt ea), (wAr y (a 6) 205 stf), (wAr y (a 7) 205 kpf), (wAr y (a 8) 1230 hsf), (wAr y (a 9) 410 slf)]) (As := [.int (jI (ho x1))]) (rest := []) ⟨hx_, hb_, hml_, hown_, hts_⟩ hM_ hP_ hD_ hS_ hA_ (List.Perm.of_eq (List.append_nil _).symm) (List.Perm.of_eq (List.append_nil _)) (c_X5_sideBySide l D y z (ho x1) fu v1 hv1) 1 (va_cwS 1 hts_ gX5_isWeak_X5_sideBySide rfl rfl rfl (by decide +kernel) ⟨by rw [hR_]; exact Nat.le_of_ble_eq_true rfl, by rw [hR_]; exact Nat.le_of_ble_eq_true rfl⟩) rfl ⟨rfl, rfl⟩ ⟨by rw [hR_]; exact Nat.le_of_ble_eq_true rfl, by rw [hR_]; exact Nat.le_of_ble_eq_true rfl⟩ rfl rfl hl_.1 (Nat.le_of_ble_eq_true rfl) dX5_isWeak_6 ⟨Nat.zero_le _, Nat.zero_le _⟩ (fun H locs hP_ hD_ hS_ => ?_)
    refine lv_aload_n hx_ hb_ dX5_isWeak_9 rfl (lv_at hl_ 0 rfl) ?_
    refine va_get (D := D) (ci := 5) (v := .ref (a 6)) (C := RX5) (T := TX5) (N := 16) hx_ hb_ hts_ hin_ hown_ hM_.1 hP_ 0 rfl rfl 0 (by decide) (hts_ (.fieldLink RX5 7 "MusicHolesModel" "state" "[I") (by decide +kernel)) (fun _ h9_ => h9_) rfl dX5_isWeak_10 ?_
    refine lv_iconst (v := jI 3) hx_ hb_ dX5_isWeak_13 (by decide +kernel) ?_
    refine jx_iald hx_ hb_ hM_ hP_ 6 0 rfl rfl rfl (Nat.le_of_ble_eq_true rfl) h_ dX5_isWeak_14 (fun h_ => ?_)
    refine jx_icmp_lt (tgt := 22) hx_ hb_ h_ dX5_isWeak_15 (by decide) (fun h_ => ?_) (fun h_ => ?_)
    · refine lv_iconst (v := jI 0) hx_ hb_ dX5_isWeak_22 (by decide +kernel) ?_
      obtain ⟨hz_, h_⟩ := jbo_i h_
      exact hE_ _ _ _ _ _ h_ hz_ dX5_isWeak_23 hP_ hD_ hS_
    · refine lv_iconst (v := jI 1) hx_ hb_ dX5_isWeak_18 (by decide +kernel) ?_
      refine lv_goto (tgt := 23) hx_ hb_ dX5_isWeak_19 (by decide) ?_
      obtain ⟨hz_, h_⟩ := jbo_i h_
      exact hE_ _ _ _ _ _ h_ hz_ dX5_isWeak_23 hP_ hD_ hS_
  exact key_ _ (fun v9 H locs pc ls h9_ hz_ hdg_ hP_ hD_ hS_ => by cases h9_; exact jend_z hx_ hb_ hr_ hlocks_ hz_ hP_ hD_ hS_ hdg_)
def rm_X5_weakMany : Room := { frames := 3, cells := 0, slots := 0, locals := 68 }
set_option maxRecDepth 100000 in
set_option maxHeartbeats 8000000 in
theorem c_X5_weakMany (l : Launch) (D : va_G) (y : Nat → ClassId) (z : Nat → Nat) (a : Nat → Nat) (rc : Int) (is_ : Int → Int) (pd : Int → Int) (pn : Int) (ho : Int → Int) (eh : Int → Int) (mv : Int → Int) (at_ : Int) (tk : Int) (fs : Int) (lt : Int) (ea : Int) (stf : Int → Int) (kpf : Int → Int) (hsf : Int → Int) (slf : Int → Int)  (fu : Nat) (rr : Int) (q_ho : Int → Int) (h_ : f_X5_weakMany fu ho stf = some (rr, q_ho)) : jCI l D y z yX5_weakMany wsX5_weakMany rm_X5_weakMany [.ref (a 0)] [(wMo y a rc is_ pd pn ho eh mv at_ tk fs lt ea), (wAr y (a 6) 205 stf), (wAr y (a 7) 205 kpf), (wAr y (a 8) 1230 hsf), (wAr y (a 9) 410 slf)] [(wMo y a rc is_ pd pn q_ho eh mv at_ tk fs lt ea), (wAr y (a 6) 205 stf), (wAr y (a 7) 205 kpf), (wAr y (a 8) 1230 hsf), (wAr y (a 9) 410 slf)] rr := by
  intro sz
  refine jmet (Qc := (fun A => va_Qi (fun v (_ : Unit) => v = jI rr) (jB D A [(wMo y a rc is_ pd pn q_ho eh mv at_ tk fs lt ea), (wAr y (a 6) 205 stf), (wAr y (a 7) 205 kpf), (wAr y (a 8) 1230 hsf), (wAr y (a 9) 410 slf)]) A)) (cc := cX5_weakMany) (maxL := 3) (ret := (some .int)) (own := RX5) (by decide) rfl (Nat.le_of_ble_eq_true rfl) rfl (fun p e s m R args below meth c A ls hR_ hargs_ hx_ hb_ hr_ hlocks_ hml_ hown_ hts_ hname_ hsz_ hP_ hD_ hA_ hM_ hl_ => ?_)
  have key_ : ∀ Q : State → Prop, (∀ (v9 : Int) (ho9 : Int → Int) (H : Heap) (locs : List Loc) (pc : Nat) (ls : Array Slot), some (v9, ho9) = some (rr, q_ho) → decode cX5_weakMany pc = .ok (.ireturn, 1) → va_P D vwCl [(wMo y a rc is_ pd pn ho9 eh mv at_ tk fs lt ea), (wAr y (a 6) 205 stf), (wAr y (a 7) 205 kpf), (wAr y (a 8) 1230 hsf), (wAr y (a 9) 410 slf)].flatten H → va_D A [(wMo y a rc is_ pd pn ho9 eh mv at_ tk fs lt ea), (wAr y (a 6) 205 stf), (wAr y (a 7) 205 kpf), (wAr y (a 8) 1230 hsf), (wAr y (a 9) 410 slf)].flatten → va_S A s.heap H locs → W p l e R s m args below meth c H locs 0 0 Q (F0 m pc ls [.int (jI v9)])) → W p l e R s m args below meth c s.heap [] 0 0 Q (F0 m 0 ls []) := by
    intro Q hE_
    have hS_ : va_S A s.heap s.heap [] := va_S.rf
    have hl_ : lv_has ls 3 [(0, .ref (a 0))] := hl_
    have hin_ : ∀ w ∈ u_ws RX5 TX5 16, w ∈ wsX5_weakMany := by decide +kernel
    unfold f_X5_weakMany at h_
    refine lv_aload_n hx_ hb_ dX5_weakMany_0 rfl (lv_at hl_ 0 rfl) ?_
    obtain ⟨ho_m1, hho_m1, h_⟩ := jb_i h_
    refine jx_cvv (rv := 0) (wr := []) (cw := [(wMo y a rc is_ pd pn ho eh mv at_ tk fs lt ea), (wAr y (a 6) 205 stf), (wAr y (a 7) 205 kpf), (wAr y (a 8) 1230 hsf), (wAr y (a 9) 410 slf)]) (cw1 := [(wMo y a rc is_ pd pn ho_m1 eh mv at_ tk fs lt ea), (wAr y (a 6) 205 stf), (wAr y (a 7) 205 kpf), (wAr y (a 8) 1230 hsf), (wAr y (a 9) 410 slf)]) (cs1 := [(wMo y a rc is_ pd pn ho_m1 eh mv at_ tk fs lt ea), (wAr y (a 6) 205 stf), (wAr y (a 7) 205 kpf), (wAr y (a 8) 1230 hsf), (wAr y (a 9) 410 slf)]) (As := []) (rest := []) ⟨hx_, hb_, hml_, hown_, hts_⟩ hM_ hP_ hD_ hS_ hA_ (List.Perm.refl _) (List.Perm.refl _) (c_X5_findHoles l D y z a rc is_ pd pn ho eh mv at_ tk fs lt ea stf kpf hsf slf fu ho_m1 hho_m1) 0 gX5_weakMany_X5_findHoles rfl ⟨rfl, rfl⟩ (by decide +kernel) ⟨by rw [hR_]; exact Nat.le_of_ble_eq_true rfl, by rw [hR_]; exact Nat.le_of_ble_eq_true rfl⟩ 0 5 rfl rfl rfl rfl rfl hl_.1 (Nat.le_of_ble_eq_true rfl) dX5_weakMany_1 ⟨Nat.zero_le _, Nat.zero_le _⟩ (fun H locs hP_ hD_ hS_ => ?_)
    refine lv_iconst (v := jI 0) hx_ hb_ dX5_weakMany_4 (by decide +kernel) ?_
    refine lv_istore_n (lv' := [(1, .int (jI 0)), (0, .ref (a 0))]) hx_ hb_ dX5_weakMany_5 rfl hl_ (by decide) rfl (fun ls hl_ => ?_)
    refine lv_iconst (v := jI 0) hx_ hb_ dX5_weakMany_6 (by decide +kernel) ?_
    refine lv_istore_n (lv' := [(2, .int (jI 0)), (1, .int (jI 0)), (0, .ref (a 0))]) hx_ hb_ dX5_weakMany_7 rfl hl_ (by decide) rfl (fun ls hl_ => ?_)
    have hX36 : ∀ (v2 : Int) (H : Heap) (locs : List Loc) (ls : Array Slot), f_X5_weakMany_X36 fu ho_m1 v2 = some (rr, q_ho) → va_P D vwCl [(wMo y a rc is_ pd pn ho_m1 eh mv at_ tk fs lt ea), (wAr y (a 6) 205 stf), (wAr y (a 7) 205 kpf), (wAr y (a 8) 1230 hsf), (wAr y (a 9) 410 slf)].flatten H → va_D A [(wMo y a rc is_ pd pn ho_m1 eh mv at_ tk fs lt ea), (wAr y (a 6) 205 stf), (wAr y (a 7) 205 kpf), (wAr y (a 8) 1230 hsf), (wAr y (a 9) 410 slf)].flatten → va_S A s.heap H locs → lv_has ls 3 [(1, .int (jI v2))] → W p l e R s m args below meth c H locs 0 0 Q (F0 m 36 ls []) := by
      intro v2 H locs ls h_ hP_ hD_ hS_ hl_
      unfold f_X5_weakMany_X36 at h_
      refine lv_iload_n hx_ hb_ dX5_weakMany_36 rfl (lv_at hl_ 0 rfl) ?_
      exact hE_ _ _ _ _ _ _ h_ dX5_weakMany_37 hP_ hD_ hS_
    have hL8 : ∀ n8 : Nat, ∀ (v3 : Int) (v4 : Int) (H : Heap) (locs : List Loc) (ls : Array Slot), f_X5_weakMany_L8 fu stf ho_m1 (f_X5_weakMany_X36 fu ho_m1) n8 v3 v4 = some (rr, q_ho) → va_P D vwCl [(wMo y a rc is_ pd pn ho_m1 eh mv at_ tk fs lt ea), (wAr y (a 6) 205 stf), (wAr y (a 7) 205 kpf), (wAr y (a 8) 1230 hsf), (wAr y (a 9) 410 slf)].flatten H → va_D A [(wMo y a rc is_ pd pn ho_m1 eh mv at_ tk fs lt ea), (wAr y (a 6) 205 stf), (wAr y (a 7) 205 kpf), (wAr y (a 8) 1230 hsf), (wAr y (a 9) 410 slf)].flatten → va_S A s.heap H locs → lv_has ls 3 [(0, .ref (a 0)), (1, .int (jI v3)), (2, .int (jI v4))] → W p l e R s m args below meth c H locs 0 0 Q (F0 m 8 ls []) := by
      intro n8
      induction n8 with
      | zero => intro _ _ H locs ls h_; have h_ : (none : Option (Int × (Int → Int))) = some (rr, q_ho) := h_; cases h_
      | succ n8 ih8 =>
        intro v3 v4 H locs ls h_ hP_ hD_ hS_ hl_
        replace h_ : f_X5_weakMany_L8_b fu stf ho_m1 (f_X5_weakMany_X36 fu ho_m1) (f_X5_weakMany_L8 fu stf ho_m1 (f_X5_weakMany_X36 fu ho_m1) n8) v3 v4 = some (rr, q_ho) := h_
        unfold f_X5_weakMany_L8_b at h_
        refine lv_iload_n hx_ hb_ dX5_weakMany_8 rfl (lv_at hl_ 2 rfl) ?_
        refine lv_bipush (v := jI 100) hx_ hb_ dX5_weakMany_9 (by decide +kernel) ?_
        refine jx_icmp_ge (tgt := 36) hx_ hb_ h_ dX5_weakMany_11 (by decide) (fun h_ => ?_) (fun h_ => ?_)
        · exact hX36 _ _ _ ls h_ hP_ hD_ hS_ (lv_sub hl_ [1] rfl)
        · refine lv_iload_n hx_ hb_ dX5_weakMany_14 rfl (lv_at hl_ 1 rfl) ?_
          refine lv_aload_n hx_ hb_ dX5_weakMany_15 rfl (lv_at hl_ 0 rfl) ?_
          refine lv_iload_n hx_ hb_ dX5_weakMany_16 rfl (lv_at hl_ 2 rfl) ?_
          obtain ⟨v5, hv5, h_⟩ := jb_i h_
          refine jx_cvi (wr := []) (cw := [(wMo y a rc is_ pd pn ho_m1 eh mv at_ tk fs lt ea), (wAr y (a 6) 205 stf), (wAr y (a 7) 205 kpf), (wAr y (a 8) 1230 hsf), (wAr y (a 9) 410 slf)]) (cw1 := [(wMo y a rc is_ pd pn ho_m1 eh mv at_ tk fs lt ea), (wAr y (a 6) 205 stf), (wAr y (a 7) 205 kpf), (wAr y (a 8) 1230 hsf), (wAr y (a 9) 410 slf)]) (cs1 := [(wMo y a rc is_ pd pn ho_m1 eh mv at_ tk fs lt ea), (wAr y (a 6) 205 stf), (wAr y (a 7) 205 kpf), (wAr y (a 8) 1230 hsf), (wAr y (a 9) 410 slf)]) (As := [.int (jI v4)]) (rest := [.int (jI v3)]) ⟨hx_, hb_, hml_, hown_, hts_⟩ hM_ hP_ hD_ hS_ hA_ (List.Perm.refl _) (List.Perm.refl _) (c_X5_isWeak l D y z a rc is_ pd pn ho_m1 eh mv at_ tk fs lt ea stf kpf hsf slf v4 fu v5 hv5) 1 gX5_weakMany_X5_isWeak rfl ⟨rfl, rfl⟩ (by decide +kernel) ⟨by rw [hR_]; exact Nat.le_of_ble_eq_true rfl, by rw [hR_]; exact Nat.le_of_ble_eq_true rfl⟩ 0 5 rfl rfl rfl rfl rfl hl_.1 (Nat.le_of_ble_eq_true rfl) dX5_weakMany_17 ⟨Nat.zero_le _, Nat.zero_le _⟩ (fun H locs hP_ hD_ hS_ => ?_)
          refine jx_if_eq (tgt := 27) hx_ hb_ h_ dX5_weakMany_20 (by decide) (fun h_ => ?_) (fun h_ => ?_)
          · refine lv_iconst (v := jI 0) hx_ hb_ dX5_weakMany_27 (by decide +kernel) ?_
            refine jx_iadd hx_ hb_ dX5_weakMany_28 ?_
            refine lv_istore_n (lv' := [(1, .int (jI (v3 + 0))), (0, .ref (a 0)), (2, .int (jI v4))]) hx_ hb_ dX5_weakMany_29 rfl hl_ (by decide) rfl (fun ls hl_ => ?_)
            refine lv_iinc (v := jI (v4 + 1)) (lv' := [(2, .int (jI (v4 + 1))), (1, .int (jI (v3 + 0))), (0, .ref (a 0))]) hx_ hb_ dX5_weakMany_30 hl_ (k := 2) rfl (jI_add _ _) (by decide) rfl (fun ls hl_ => ?_)
            refine lv_goto (tgt := 8) hx_ hb_ dX5_weakMany_33 (by decide) ?_
            exact ih8 _ _ _ _ ls h_ hP_ hD_ hS_ (lv_sub hl_ [2, 1, 0] rfl)
          · refine lv_iconst (v := jI 1) hx_ hb_ dX5_weakMany_23 (by decide +kernel) ?_
            refine lv_goto (tgt := 28) hx_ hb_ dX5_weakMany_24 (by decide) ?_
            refine jx_iadd hx_ hb_ dX5_weakMany_28 ?_
            refine lv_istore_n (lv' := [(1, .int (jI (v3 + 1))), (0, .ref (a 0)), (2, .int (jI v4))]) hx_ hb_ dX5_weakMany_29 rfl hl_ (by decide) rfl (fun ls hl_ => ?_)
            refine lv_iinc (v := jI (v4 + 1)) (lv' := [(2, .int (jI (v4 + 1))), (1, .int (jI (v3 + 1))), (0, .ref (a 0))]) hx_ hb_ dX5_weakMany_30 hl_ (k := 2) rfl (jI_add _ _) (by decide) rfl (fun ls hl_ => ?_)
            refine lv_goto (tgt := 8) hx_ hb_ dX5_weakMany_33 (by decide) ?_
            exact ih8 _ _ _ _ ls h_ hP_ hD_ hS_ (lv_sub hl_ [2, 1, 0] rfl)
    exact hL8 fu _ _ _ _ ls h_ hP_ hD_ hS_ (lv_sub hl_ [2, 1, 0] rfl)
  exact key_ _ (fun v9 ho9 H locs pc ls h9_ hdg_ hP_ hD_ hS_ => by cases h9_; exact jend_i hx_ hb_ hr_ hlocks_ hP_ hD_ hS_ hdg_)
def rm_X5_firstWeak : Room := { frames := 3, cells := 0, slots := 0, locals := 68 }
set_option maxRecDepth 100000 in
set_option maxHeartbeats 8000000 in
theorem c_X5_firstWeak (l : Launch) (D : va_G) (y : Nat → ClassId) (z : Nat → Nat) (a : Nat → Nat) (rc : Int) (is_ : Int → Int) (pd : Int → Int) (pn : Int) (ho : Int → Int) (eh : Int → Int) (mv : Int → Int) (at_ : Int) (tk : Int) (fs : Int) (lt : Int) (ea : Int) (stf : Int → Int) (kpf : Int → Int) (hsf : Int → Int) (slf : Int → Int)  (fu : Nat) (rr : Int) (q_ho : Int → Int) (h_ : f_X5_firstWeak fu ho stf = some (rr, q_ho)) : jCI l D y z yX5_firstWeak wsX5_firstWeak rm_X5_firstWeak [.ref (a 0)] [(wMo y a rc is_ pd pn ho eh mv at_ tk fs lt ea), (wAr y (a 6) 205 stf), (wAr y (a 7) 205 kpf), (wAr y (a 8) 1230 hsf), (wAr y (a 9) 410 slf)] [(wMo y a rc is_ pd pn q_ho eh mv at_ tk fs lt ea), (wAr y (a 6) 205 stf), (wAr y (a 7) 205 kpf), (wAr y (a 8) 1230 hsf), (wAr y (a 9) 410 slf)] rr := by
  intro sz
  refine jmet (Qc := (fun A => va_Qi (fun v (_ : Unit) => v = jI rr) (jB D A [(wMo y a rc is_ pd pn q_ho eh mv at_ tk fs lt ea), (wAr y (a 6) 205 stf), (wAr y (a 7) 205 kpf), (wAr y (a 8) 1230 hsf), (wAr y (a 9) 410 slf)]) A)) (cc := cX5_firstWeak) (maxL := 3) (ret := (some .int)) (own := RX5) (by decide) rfl (Nat.le_of_ble_eq_true rfl) rfl (fun p e s m R args below meth c A ls hR_ hargs_ hx_ hb_ hr_ hlocks_ hml_ hown_ hts_ hname_ hsz_ hP_ hD_ hA_ hM_ hl_ => ?_)
  have key_ : ∀ Q : State → Prop, (∀ (v9 : Int) (ho9 : Int → Int) (H : Heap) (locs : List Loc) (pc : Nat) (ls : Array Slot), some (v9, ho9) = some (rr, q_ho) → decode cX5_firstWeak pc = .ok (.ireturn, 1) → va_P D vwCl [(wMo y a rc is_ pd pn ho9 eh mv at_ tk fs lt ea), (wAr y (a 6) 205 stf), (wAr y (a 7) 205 kpf), (wAr y (a 8) 1230 hsf), (wAr y (a 9) 410 slf)].flatten H → va_D A [(wMo y a rc is_ pd pn ho9 eh mv at_ tk fs lt ea), (wAr y (a 6) 205 stf), (wAr y (a 7) 205 kpf), (wAr y (a 8) 1230 hsf), (wAr y (a 9) 410 slf)].flatten → va_S A s.heap H locs → W p l e R s m args below meth c H locs 0 0 Q (F0 m pc ls [.int (jI v9)])) → W p l e R s m args below meth c s.heap [] 0 0 Q (F0 m 0 ls []) := by
    intro Q hE_
    have hS_ : va_S A s.heap s.heap [] := va_S.rf
    have hl_ : lv_has ls 3 [(0, .ref (a 0))] := hl_
    have hin_ : ∀ w ∈ u_ws RX5 TX5 16, w ∈ wsX5_firstWeak := by decide +kernel
    unfold f_X5_firstWeak at h_
    refine lv_aload_n hx_ hb_ dX5_firstWeak_0 rfl (lv_at hl_ 0 rfl) ?_
    obtain ⟨ho_m1, hho_m1, h_⟩ := jb_i h_
    refine jx_cvv (rv := 0) (wr := []) (cw := [(wMo y a rc is_ pd pn ho eh mv at_ tk fs lt ea), (wAr y (a 6) 205 stf), (wAr y (a 7) 205 kpf), (wAr y (a 8) 1230 hsf), (wAr y (a 9) 410 slf)]) (cw1 := [(wMo y a rc is_ pd pn ho_m1 eh mv at_ tk fs lt ea), (wAr y (a 6) 205 stf), (wAr y (a 7) 205 kpf), (wAr y (a 8) 1230 hsf), (wAr y (a 9) 410 slf)]) (cs1 := [(wMo y a rc is_ pd pn ho_m1 eh mv at_ tk fs lt ea), (wAr y (a 6) 205 stf), (wAr y (a 7) 205 kpf), (wAr y (a 8) 1230 hsf), (wAr y (a 9) 410 slf)]) (As := []) (rest := []) ⟨hx_, hb_, hml_, hown_, hts_⟩ hM_ hP_ hD_ hS_ hA_ (List.Perm.refl _) (List.Perm.refl _) (c_X5_findHoles l D y z a rc is_ pd pn ho eh mv at_ tk fs lt ea stf kpf hsf slf fu ho_m1 hho_m1) 0 gX5_firstWeak_X5_findHoles rfl ⟨rfl, rfl⟩ (by decide +kernel) ⟨by rw [hR_]; exact Nat.le_of_ble_eq_true rfl, by rw [hR_]; exact Nat.le_of_ble_eq_true rfl⟩ 0 5 rfl rfl rfl rfl rfl hl_.1 (Nat.le_of_ble_eq_true rfl) dX5_firstWeak_1 ⟨Nat.zero_le _, Nat.zero_le _⟩ (fun H locs hP_ hD_ hS_ => ?_)
    refine lv_bipush (v := jI (-6)) hx_ hb_ dX5_firstWeak_4 (by decide +kernel) ?_
    refine lv_istore_n (lv' := [(1, .int (jI (-6))), (0, .ref (a 0))]) hx_ hb_ dX5_firstWeak_6 rfl hl_ (by decide) rfl (fun ls hl_ => ?_)
    refine lv_bipush (v := jI 99) hx_ hb_ dX5_firstWeak_7 (by decide +kernel) ?_
    refine lv_istore_n (lv' := [(2, .int (jI 99)), (1, .int (jI (-6))), (0, .ref (a 0))]) hx_ hb_ dX5_firstWeak_9 rfl hl_ (by decide) rfl (fun ls hl_ => ?_)
    have hX34 : ∀ (v2 : Int) (H : Heap) (locs : List Loc) (ls : Array Slot), f_X5_firstWeak_X34 fu ho_m1 v2 = some (rr, q_ho) → va_P D vwCl [(wMo y a rc is_ pd pn ho_m1 eh mv at_ tk fs lt ea), (wAr y (a 6) 205 stf), (wAr y (a 7) 205 kpf), (wAr y (a 8) 1230 hsf), (wAr y (a 9) 410 slf)].flatten H → va_D A [(wMo y a rc is_ pd pn ho_m1 eh mv at_ tk fs lt ea), (wAr y (a 6) 205 stf), (wAr y (a 7) 205 kpf), (wAr y (a 8) 1230 hsf), (wAr y (a 9) 410 slf)].flatten → va_S A s.heap H locs → lv_has ls 3 [(1, .int (jI v2))] → W p l e R s m args below meth c H locs 0 0 Q (F0 m 34 ls []) := by
      intro v2 H locs ls h_ hP_ hD_ hS_ hl_
      unfold f_X5_firstWeak_X34 at h_
      refine lv_iload_n hx_ hb_ dX5_firstWeak_34 rfl (lv_at hl_ 0 rfl) ?_
      exact hE_ _ _ _ _ _ _ h_ dX5_firstWeak_35 hP_ hD_ hS_
    have hL10 : ∀ n10 : Nat, ∀ (v3 : Int) (v4 : Int) (H : Heap) (locs : List Loc) (ls : Array Slot), f_X5_firstWeak_L10 fu stf ho_m1 (f_X5_firstWeak_X34 fu ho_m1) n10 v3 v4 = some (rr, q_ho) → va_P D vwCl [(wMo y a rc is_ pd pn ho_m1 eh mv at_ tk fs lt ea), (wAr y (a 6) 205 stf), (wAr y (a 7) 205 kpf), (wAr y (a 8) 1230 hsf), (wAr y (a 9) 410 slf)].flatten H → va_D A [(wMo y a rc is_ pd pn ho_m1 eh mv at_ tk fs lt ea), (wAr y (a 6) 205 stf), (wAr y (a 7) 205 kpf), (wAr y (a 8) 1230 hsf), (wAr y (a 9) 410 slf)].flatten → va_S A s.heap H locs → lv_has ls 3 [(0, .ref (a 0)), (1, .int (jI v3)), (2, .int (jI v4))] → W p l e R s m args below meth c H locs 0 0 Q (F0 m 10 ls []) := by
      intro n10
      induction n10 with
      | zero => intro _ _ H locs ls h_; have h_ : (none : Option (Int × (Int → Int))) = some (rr, q_ho) := h_; cases h_
      | succ n10 ih10 =>
        intro v3 v4 H locs ls h_ hP_ hD_ hS_ hl_
        replace h_ : f_X5_firstWeak_L10_b fu stf ho_m1 (f_X5_firstWeak_X34 fu ho_m1) (f_X5_firstWeak_L10 fu stf ho_m1 (f_X5_firstWeak_X34 fu ho_m1) n10) v3 v4 = some (rr, q_ho) := h_
        unfold f_X5_firstWeak_L10_b at h_
        refine lv_iload_n hx_ hb_ dX5_firstWeak_10 rfl (lv_at hl_ 2 rfl) ?_
        refine jx_if_lt (tgt := 34) hx_ hb_ h_ dX5_firstWeak_11 (by decide) (fun h_ => ?_) (fun h_ => ?_)
        · exact hX34 _ _ _ ls h_ hP_ hD_ hS_ (lv_sub hl_ [1] rfl)
        · refine lv_aload_n hx_ hb_ dX5_firstWeak_14 rfl (lv_at hl_ 0 rfl) ?_
          refine lv_iload_n hx_ hb_ dX5_firstWeak_15 rfl (lv_at hl_ 2 rfl) ?_
          obtain ⟨v5, hv5, h_⟩ := jb_i h_
          refine jx_cvi (wr := []) (cw := [(wMo y a rc is_ pd pn ho_m1 eh mv at_ tk fs lt ea), (wAr y (a 6) 205 stf), (wAr y (a 7) 205 kpf), (wAr y (a 8) 1230 hsf), (wAr y (a 9) 410 slf)]) (cw1 := [(wMo y a rc is_ pd pn ho_m1 eh mv at_ tk fs lt ea), (wAr y (a 6) 205 stf), (wAr y (a 7) 205 kpf), (wAr y (a 8) 1230 hsf), (wAr y (a 9) 410 slf)]) (cs1 := [(wMo y a rc is_ pd pn ho_m1 eh mv at_ tk fs lt ea), (wAr y (a 6) 205 stf), (wAr y (a 7) 205 kpf), (wAr y (a 8) 1230 hsf), (wAr y (a 9) 410 slf)]) (As := [.int (jI v4)]) (rest := []) ⟨hx_, hb_, hml_, hown_, hts_⟩ hM_ hP_ hD_ hS_ hA_ (List.Perm.refl _) (List.Perm.refl _) (c_X5_isWeak l D y z a rc is_ pd pn ho_m1 eh mv at_ tk fs lt ea stf kpf hsf slf v4 fu v5 hv5) 1 gX5_firstWeak_X5_isWeak rfl ⟨rfl, rfl⟩ (by decide +kernel) ⟨by rw [hR_]; exact Nat.le_of_ble_eq_true rfl, by rw [hR_]; exact Nat.le_of_ble_eq_true rfl⟩ 0 5 rfl rfl rfl rfl rfl hl_.1 (Nat.le_of_ble_eq_true rfl) dX5_firstWeak_16 ⟨Nat.zero_le _, Nat.zero_le _⟩ (fun H locs hP_ hD_ hS_ => ?_)
          refine jx_if_eq (tgt := 26) hx_ hb_ h_ dX5_firstWeak_19 (by decide) (fun h_ => ?_) (fun h_ => ?_)
          · refine lv_iload_n hx_ hb_ dX5_firstWeak_26 rfl (lv_at hl_ 1 rfl) ?_
            refine lv_istore_n (lv' := [(1, .int (jI v3)), (0, .ref (a 0)), (2, .int (jI v4))]) hx_ hb_ dX5_firstWeak_27 rfl hl_ (by decide) rfl (fun ls hl_ => ?_)
            refine lv_iinc (v := jI (v4 + (-1))) (lv' := [(2, .int (jI (v4 + (-1)))), (1, .int (jI v3)), (0, .ref (a 0))]) hx_ hb_ dX5_firstWeak_28 hl_ (k := 2) rfl (jI_add _ _) (by decide) rfl (fun ls hl_ => ?_)
            refine lv_goto (tgt := 10) hx_ hb_ dX5_firstWeak_31 (by decide) ?_
            exact ih10 _ _ _ _ ls h_ hP_ hD_ hS_ (lv_sub hl_ [2, 1, 0] rfl)
          · refine lv_iload_n hx_ hb_ dX5_firstWeak_22 rfl (lv_at hl_ 2 rfl) ?_
            refine lv_goto (tgt := 27) hx_ hb_ dX5_firstWeak_23 (by decide) ?_
            refine lv_istore_n (lv' := [(1, .int (jI v4)), (0, .ref (a 0)), (2, .int (jI v4))]) hx_ hb_ dX5_firstWeak_27 rfl hl_ (by decide) rfl (fun ls hl_ => ?_)
            refine lv_iinc (v := jI (v4 + (-1))) (lv' := [(2, .int (jI (v4 + (-1)))), (1, .int (jI v4)), (0, .ref (a 0))]) hx_ hb_ dX5_firstWeak_28 hl_ (k := 2) rfl (jI_add _ _) (by decide) rfl (fun ls hl_ => ?_)
            refine lv_goto (tgt := 10) hx_ hb_ dX5_firstWeak_31 (by decide) ?_
            exact ih10 _ _ _ _ ls h_ hP_ hD_ hS_ (lv_sub hl_ [2, 1, 0] rfl)
    exact hL10 fu _ _ _ _ ls h_ hP_ hD_ hS_ (lv_sub hl_ [2, 1, 0] rfl)
  exact key_ _ (fun v9 ho9 H locs pc ls h9_ hdg_ hP_ hD_ hS_ => by cases h9_; exact jend_i hx_ hb_ hr_ hlocks_ hP_ hD_ hS_ hdg_)
def rm_X5_bits : Room := { frames := 0, cells := 0, slots := 0, locals := 0 }
set_option maxRecDepth 100000 in
set_option maxHeartbeats 8000000 in
theorem c_X5_bits (l : Launch) (D : va_G) (y : Nat → ClassId) (z : Nat → Nat)   (x0 : Int) (fu : Nat) (rr : Int) (h_ : f_X5_bits fu x0 = some rr) : jCI l D y z yX5_bits wsX5_bits rm_X5_bits [.int (jI x0)] [] [] rr := by
  intro sz
  refine jmet (Qc := (fun A => va_Qi (fun v (_ : Unit) => v = jI rr) (jB D A []) A)) (cc := cX5_bits) (maxL := 3) (ret := (some .int)) (own := RX5) (by decide) rfl (Nat.le_of_ble_eq_true rfl) rfl (fun p e s m R args below meth c A ls hR_ hargs_ hx_ hb_ hr_ hlocks_ hml_ hown_ hts_ hname_ hsz_ hP_ hD_ hA_ hM_ hl_ => ?_)
  have key_ : ∀ Q : State → Prop, (∀ (v9 : Int) (H : Heap) (locs : List Loc) (pc : Nat) (ls : Array Slot), some v9 = some rr → decode cX5_bits pc = .ok (.ireturn, 1) → va_P D vwCl [].flatten H → va_D A [].flatten → va_S A s.heap H locs → W p l e R s m args below meth c H locs 0 0 Q (F0 m pc ls [.int (jI v9)])) → W p l e R s m args below meth c s.heap [] 0 0 Q (F0 m 0 ls []) := by
    intro Q hE_
    have hS_ : va_S A s.heap s.heap [] := va_S.rf
    have hl_ : lv_has ls 3 [(0, .int (jI x0))] := hl_
    unfold f_X5_bits at h_
    refine lv_iconst (v := jI 0) hx_ hb_ dX5_bits_0 (by decide +kernel) ?_
    refine lv_istore_n (lv' := [(1, .int (jI 0)), (0, .int (jI x0))]) hx_ hb_ dX5_bits_1 rfl hl_ (by decide) rfl (fun ls hl_ => ?_)
    refine lv_iconst (v := jI 0) hx_ hb_ dX5_bits_2 (by decide +kernel) ?_
    refine lv_istore_n (lv' := [(2, .int (jI 0)), (1, .int (jI 0)), (0, .int (jI x0))]) hx_ hb_ dX5_bits_3 rfl hl_ (by decide) rfl (fun ls hl_ => ?_)
    have hX24 : ∀ (v1 : Int) (H : Heap) (locs : List Loc) (ls : Array Slot), f_X5_bits_X24 fu v1 = some rr → va_P D vwCl [].flatten H → va_D A [].flatten → va_S A s.heap H locs → lv_has ls 3 [(1, .int (jI v1))] → W p l e R s m args below meth c H locs 0 0 Q (F0 m 24 ls []) := by
      intro v1 H locs ls h_ hP_ hD_ hS_ hl_
      unfold f_X5_bits_X24 at h_
      refine lv_iload_n hx_ hb_ dX5_bits_24 rfl (lv_at hl_ 0 rfl) ?_
      exact hE_ _ _ _ _ _ h_ dX5_bits_25 hP_ hD_ hS_
    have hL4 : ∀ n4 : Nat, ∀ (v2 : Int) (v3 : Int) (H : Heap) (locs : List Loc) (ls : Array Slot), f_X5_bits_L4 fu x0 (f_X5_bits_X24 fu) n4 v2 v3 = some rr → va_P D vwCl [].flatten H → va_D A [].flatten → va_S A s.heap H locs → lv_has ls 3 [(0, .int (jI x0)), (1, .int (jI v2)), (2, .int (jI v3))] → W p l e R s m args below meth c H locs 0 0 Q (F0 m 4 ls []) := by
      intro n4
      induction n4 with
      | zero => intro _ _ H locs ls h_; have h_ : (none : Option (Int)) = some rr := h_; cases h_
      | succ n4 ih4 =>
        intro v2 v3 H locs ls h_ hP_ hD_ hS_ hl_
        replace h_ : f_X5_bits_L4_b fu x0 (f_X5_bits_X24 fu) (f_X5_bits_L4 fu x0 (f_X5_bits_X24 fu) n4) v2 v3 = some rr := h_
        unfold f_X5_bits_L4_b at h_
        refine lv_iload_n hx_ hb_ dX5_bits_4 rfl (lv_at hl_ 2 rfl) ?_
        refine lv_bipush (v := jI 12) hx_ hb_ dX5_bits_5 (by decide +kernel) ?_
        refine jx_icmp_ge (tgt := 24) hx_ hb_ h_ dX5_bits_7 (by decide) (fun h_ => ?_) (fun h_ => ?_)
        · exact hX24 _ _ _ ls h_ hP_ hD_ hS_ (lv_sub hl_ [1] rfl)
        · refine lv_iload_n hx_ hb_ dX5_bits_10 rfl (lv_at hl_ 1 rfl) ?_
          refine lv_iload_n hx_ hb_ dX5_bits_11 rfl (lv_at hl_ 0 rfl) ?_
          refine lv_iload_n hx_ hb_ dX5_bits_12 rfl (lv_at hl_ 2 rfl) ?_
          refine jx_ishr hx_ hb_ dX5_bits_13 ?_
          refine lv_iconst (v := jI 1) hx_ hb_ dX5_bits_14 (by decide +kernel) ?_
          refine jx_iand hx_ hb_ dX5_bits_15 ?_
          refine jx_iadd hx_ hb_ dX5_bits_16 ?_
          refine lv_istore_n (lv' := [(1, .int (jI (v2 + (jand (jshr x0 v3) 1)))), (0, .int (jI x0)), (2, .int (jI v3))]) hx_ hb_ dX5_bits_17 rfl hl_ (by decide) rfl (fun ls hl_ => ?_)
          refine lv_iinc (v := jI (v3 + 1)) (lv' := [(2, .int (jI (v3 + 1))), (1, .int (jI (v2 + (jand (jshr x0 v3) 1)))), (0, .int (jI x0))]) hx_ hb_ dX5_bits_18 hl_ (k := 2) rfl (jI_add _ _) (by decide) rfl (fun ls hl_ => ?_)
          refine lv_goto (tgt := 4) hx_ hb_ dX5_bits_21 (by decide) ?_
          exact ih4 _ _ _ _ ls h_ hP_ hD_ hS_ (lv_sub hl_ [2, 1, 0] rfl)
    exact hL4 fu _ _ _ _ ls h_ hP_ hD_ hS_ (lv_sub hl_ [2, 1, 0] rfl)
  exact key_ _ (fun v9 H locs pc ls h9_ hdg_ hP_ hD_ hS_ => by cases h9_; exact jend_i hx_ hb_ hr_ hlocks_ hP_ hD_ hS_ hdg_)
def rm_X5_allHoles : Room := { frames := 3, cells := 0, slots := 0, locals := 68 }
set_option maxRecDepth 100000 in
set_option maxHeartbeats 8000000 in
theorem c_X5_allHoles (l : Launch) (D : va_G) (y : Nat → ClassId) (z : Nat → Nat) (a : Nat → Nat) (rc : Int) (is_ : Int → Int) (pd : Int → Int) (pn : Int) (ho : Int → Int) (eh : Int → Int) (mv : Int → Int) (at_ : Int) (tk : Int) (fs : Int) (lt : Int) (ea : Int) (stf : Int → Int) (kpf : Int → Int) (hsf : Int → Int) (slf : Int → Int)  (fu : Nat) (rr : Int) (q_ho : Int → Int) (h_ : f_X5_allHoles fu ho stf = some (rr, q_ho)) : jCI l D y z yX5_allHoles wsX5_allHoles rm_X5_allHoles [.ref (a 0)] [(wMo y a rc is_ pd pn ho eh mv at_ tk fs lt ea), (wAr y (a 6) 205 stf), (wAr y (a 7) 205 kpf), (wAr y (a 8) 1230 hsf), (wAr y (a 9) 410 slf)] [(wMo y a rc is_ pd pn q_ho eh mv at_ tk fs lt ea), (wAr y (a 6) 205 stf), (wAr y (a 7) 205 kpf), (wAr y (a 8) 1230 hsf), (wAr y (a 9) 410 slf)] rr := by
  intro sz
  refine jmet (Qc := (fun A => va_Qi (fun v (_ : Unit) => v = jI rr) (jB D A [(wMo y a rc is_ pd pn q_ho eh mv at_ tk fs lt ea), (wAr y (a 6) 205 stf), (wAr y (a 7) 205 kpf), (wAr y (a 8) 1230 hsf), (wAr y (a 9) 410 slf)]) A)) (cc := cX5_allHoles) (maxL := 3) (ret := (some .int)) (own := RX5) (by decide) rfl (Nat.le_of_ble_eq_true rfl) rfl (fun p e s m R args below meth c A ls hR_ hargs_ hx_ hb_ hr_ hlocks_ hml_ hown_ hts_ hname_ hsz_ hP_ hD_ hA_ hM_ hl_ => ?_)
  have key_ : ∀ Q : State → Prop, (∀ (v9 : Int) (ho9 : Int → Int) (H : Heap) (locs : List Loc) (pc : Nat) (ls : Array Slot), some (v9, ho9) = some (rr, q_ho) → decode cX5_allHoles pc = .ok (.ireturn, 1) → va_P D vwCl [(wMo y a rc is_ pd pn ho9 eh mv at_ tk fs lt ea), (wAr y (a 6) 205 stf), (wAr y (a 7) 205 kpf), (wAr y (a 8) 1230 hsf), (wAr y (a 9) 410 slf)].flatten H → va_D A [(wMo y a rc is_ pd pn ho9 eh mv at_ tk fs lt ea), (wAr y (a 6) 205 stf), (wAr y (a 7) 205 kpf), (wAr y (a 8) 1230 hsf), (wAr y (a 9) 410 slf)].flatten → va_S A s.heap H locs → W p l e R s m args below meth c H locs 0 0 Q (F0 m pc ls [.int (jI v9)])) → W p l e R s m args below meth c s.heap [] 0 0 Q (F0 m 0 ls []) := by
    intro Q hE_
    have hS_ : va_S A s.heap s.heap [] := va_S.rf
    have hl_ : lv_has ls 3 [(0, .ref (a 0))] := hl_
    have hin_ : ∀ w ∈ u_ws RX5 TX5 16, w ∈ wsX5_allHoles := by decide +kernel
    unfold f_X5_allHoles at h_
    refine lv_aload_n hx_ hb_ dX5_allHoles_0 rfl (lv_at hl_ 0 rfl) ?_
    obtain ⟨ho_m1, hho_m1, h_⟩ := jb_i h_
    refine jx_cvv (rv := 0) (wr := []) (cw := [(wMo y a rc is_ pd pn ho eh mv at_ tk fs lt ea), (wAr y (a 6) 205 stf), (wAr y (a 7) 205 kpf), (wAr y (a 8) 1230 hsf), (wAr y (a 9) 410 slf)]) (cw1 := [(wMo y a rc is_ pd pn ho_m1 eh mv at_ tk fs lt ea), (wAr y (a 6) 205 stf), (wAr y (a 7) 205 kpf), (wAr y (a 8) 1230 hsf), (wAr y (a 9) 410 slf)]) (cs1 := [(wMo y a rc is_ pd pn ho_m1 eh mv at_ tk fs lt ea), (wAr y (a 6) 205 stf), (wAr y (a 7) 205 kpf), (wAr y (a 8) 1230 hsf), (wAr y (a 9) 410 slf)]) (As := []) (rest := []) ⟨hx_, hb_, hml_, hown_, hts_⟩ hM_ hP_ hD_ hS_ hA_ (List.Perm.refl _) (List.Perm.refl _) (c_X5_findHoles l D y z a rc is_ pd pn ho eh mv at_ tk fs lt ea stf kpf hsf slf fu ho_m1 hho_m1) 0 gX5_allHoles_X5_findHoles rfl ⟨rfl, rfl⟩ (by decide +kernel) ⟨by rw [hR_]; exact Nat.le_of_ble_eq_true rfl, by rw [hR_]; exact Nat.le_of_ble_eq_true rfl⟩ 0 5 rfl rfl rfl rfl rfl hl_.1 (Nat.le_of_ble_eq_true rfl) dX5_allHoles_1 ⟨Nat.zero_le _, Nat.zero_le _⟩ (fun H locs hP_ hD_ hS_ => ?_)
    refine lv_iconst (v := jI 0) hx_ hb_ dX5_allHoles_4 (by decide +kernel) ?_
    refine lv_istore_n (lv' := [(1, .int (jI 0)), (0, .ref (a 0))]) hx_ hb_ dX5_allHoles_5 rfl hl_ (by decide) rfl (fun ls hl_ => ?_)
    refine lv_iconst (v := jI 0) hx_ hb_ dX5_allHoles_6 (by decide +kernel) ?_
    refine lv_istore_n (lv' := [(2, .int (jI 0)), (1, .int (jI 0)), (0, .ref (a 0))]) hx_ hb_ dX5_allHoles_7 rfl hl_ (by decide) rfl (fun ls hl_ => ?_)
    have hX32 : ∀ (v2 : Int) (H : Heap) (locs : List Loc) (ls : Array Slot), f_X5_allHoles_X32 fu ho_m1 v2 = some (rr, q_ho) → va_P D vwCl [(wMo y a rc is_ pd pn ho_m1 eh mv at_ tk fs lt ea), (wAr y (a 6) 205 stf), (wAr y (a 7) 205 kpf), (wAr y (a 8) 1230 hsf), (wAr y (a 9) 410 slf)].flatten H → va_D A [(wMo y a rc is_ pd pn ho_m1 eh mv at_ tk fs lt ea), (wAr y (a 6) 205 stf), (wAr y (a 7) 205 kpf), (wAr y (a 8) 1230 hsf), (wAr y (a 9) 410 slf)].flatten → va_S A s.heap H locs → lv_has ls 3 [(1, .int (jI v2))] → W p l e R s m args below meth c H locs 0 0 Q (F0 m 32 ls []) := by
      intro v2 H locs ls h_ hP_ hD_ hS_ hl_
      unfold f_X5_allHoles_X32 at h_
      refine lv_iload_n hx_ hb_ dX5_allHoles_32 rfl (lv_at hl_ 0 rfl) ?_
      exact hE_ _ _ _ _ _ _ h_ dX5_allHoles_33 hP_ hD_ hS_
    have hL8 : ∀ n8 : Nat, ∀ (v3 : Int) (v4 : Int) (H : Heap) (locs : List Loc) (ls : Array Slot), f_X5_allHoles_L8 fu ho_m1 (f_X5_allHoles_X32 fu ho_m1) n8 v3 v4 = some (rr, q_ho) → va_P D vwCl [(wMo y a rc is_ pd pn ho_m1 eh mv at_ tk fs lt ea), (wAr y (a 6) 205 stf), (wAr y (a 7) 205 kpf), (wAr y (a 8) 1230 hsf), (wAr y (a 9) 410 slf)].flatten H → va_D A [(wMo y a rc is_ pd pn ho_m1 eh mv at_ tk fs lt ea), (wAr y (a 6) 205 stf), (wAr y (a 7) 205 kpf), (wAr y (a 8) 1230 hsf), (wAr y (a 9) 410 slf)].flatten → va_S A s.heap H locs → lv_has ls 3 [(0, .ref (a 0)), (1, .int (jI v3)), (2, .int (jI v4))] → W p l e R s m args below meth c H locs 0 0 Q (F0 m 8 ls []) := by
      intro n8
      induction n8 with
      | zero => intro _ _ H locs ls h_; have h_ : (none : Option (Int × (Int → Int))) = some (rr, q_ho) := h_; cases h_
      | succ n8 ih8 =>
        intro v3 v4 H locs ls h_ hP_ hD_ hS_ hl_
        replace h_ : f_X5_allHoles_L8_b fu ho_m1 (f_X5_allHoles_X32 fu ho_m1) (f_X5_allHoles_L8 fu ho_m1 (f_X5_allHoles_X32 fu ho_m1) n8) v3 v4 = some (rr, q_ho) := h_
        unfold f_X5_allHoles_L8_b at h_
        refine lv_iload_n hx_ hb_ dX5_allHoles_8 rfl (lv_at hl_ 2 rfl) ?_
        refine lv_bipush (v := jI 100) hx_ hb_ dX5_allHoles_9 (by decide +kernel) ?_
        refine jx_icmp_ge (tgt := 32) hx_ hb_ h_ dX5_allHoles_11 (by decide) (fun h_ => ?_) (fun h_ => ?_)
        · exact hX32 _ _ _ ls h_ hP_ hD_ hS_ (lv_sub hl_ [1] rfl)
        · refine lv_iload_n hx_ hb_ dX5_allHoles_14 rfl (lv_at hl_ 1 rfl) ?_
          refine lv_aload_n hx_ hb_ dX5_allHoles_15 rfl (lv_at hl_ 0 rfl) ?_
          refine va_get (D := D) (ci := 5) (v := .ref (a 3)) (C := RX5) (T := TX5) (N := 16) hx_ hb_ hts_ hin_ hown_ hM_.1 hP_ 0 rfl rfl 8 (by decide) (hts_ (.fieldLink RX5 28 "MusicHolesModel" "holes" "[I") (by decide +kernel)) (fun _ h9_ => h9_) rfl dX5_allHoles_16 ?_
          refine lv_iload_n hx_ hb_ dX5_allHoles_19 rfl (lv_at hl_ 2 rfl) ?_
          refine jx_iald hx_ hb_ hM_ hP_ 3 0 rfl rfl rfl (Nat.le_of_ble_eq_true rfl) h_ dX5_allHoles_20 (fun h_ => ?_)
          obtain ⟨v5, hv5, h_⟩ := jb_i h_
          refine jx_csi (b := 0) (C := "") (wr := [(wMo y a rc is_ pd pn ho_m1 eh mv at_ tk fs lt ea), (wAr y (a 6) 205 stf), (wAr y (a 7) 205 kpf), (wAr y (a 8) 1230 hsf), (wAr y (a 9) 410 slf)]) (cw := []) (cw1 := []) (cs1 := [(wMo y a rc is_ pd pn ho_m1 eh mv at_ tk fs lt ea), (wAr y (a 6) 205 stf), (wAr y (a 7) 205 kpf), (wAr y (a 8) 1230 hsf), (wAr y (a 9) 410 slf)]) (As := [.int (jI (ho_m1 v4))]) (rest := [.int (jI v3)]) ⟨hx_, hb_, hml_, hown_, hts_⟩ hM_ hP_ hD_ hS_ hA_ (List.Perm.of_eq (List.append_nil _).symm) (List.Perm.of_eq (List.append_nil _)) (c_X5_bits l D y z (ho_m1 v4) fu v5 hv5) 1 (va_cwS 1 hts_ gX5_allHoles_X5_bits rfl rfl rfl (by decide +kernel) ⟨by rw [hR_]; exact Nat.le_of_ble_eq_true rfl, by rw [hR_]; exact Nat.le_of_ble_eq_true rfl⟩) rfl ⟨rfl, rfl⟩ ⟨by rw [hR_]; exact Nat.le_of_ble_eq_true rfl, by rw [hR_]; exact Nat.le_of_ble_eq_true rfl⟩ rfl rfl hl_.1 (Nat.le_of_ble_eq_true rfl) dX5_allHoles_21 ⟨Nat.zero_le _, Nat.zero_le _⟩ (fun H locs hP_ hD_ hS_ => ?_)
          refine jx_iadd hx_ hb_ dX5_allHoles_24 ?_
          refine lv_istore_n (lv' := [(1, .int (jI (v3 + v5))), (0, .ref (a 0)), (2, .int (jI v4))]) hx_ hb_ dX5_allHoles_25 rfl hl_ (by decide) rfl (fun ls hl_ => ?_)
          refine lv_iinc (v := jI (v4 + 1)) (lv' := [(2, .int (jI (v4 + 1))), (1, .int (jI (v3 + v5))), (0, .ref (a 0))]) hx_ hb_ dX5_allHoles_26 hl_ (k := 2) rfl (jI_add _ _) (by decide) rfl (fun ls hl_ => ?_)
          refine lv_goto (tgt := 8) hx_ hb_ dX5_allHoles_29 (by decide) ?_
          exact ih8 _ _ _ _ ls h_ hP_ hD_ hS_ (lv_sub hl_ [2, 1, 0] rfl)
    exact hL8 fu _ _ _ _ ls h_ hP_ hD_ hS_ (lv_sub hl_ [2, 1, 0] rfl)
  exact key_ _ (fun v9 ho9 H locs pc ls h9_ hdg_ hP_ hD_ hS_ => by cases h9_; exact jend_i hx_ hb_ hr_ hlocks_ hP_ hD_ hS_ hdg_)
def rm_X5_isHeard : Room := { frames := 0, cells := 0, slots := 0, locals := 0 }
set_option maxRecDepth 100000 in
set_option maxHeartbeats 8000000 in
theorem c_X5_isHeard (l : Launch) (D : va_G) (y : Nat → ClassId) (z : Nat → Nat) (a : Nat → Nat) (rc : Int) (is_ : Int → Int) (pd : Int → Int) (pn : Int) (ho : Int → Int) (eh : Int → Int) (mv : Int → Int) (at_ : Int) (tk : Int) (fs : Int) (lt : Int) (ea : Int) (stf : Int → Int) (kpf : Int → Int) (hsf : Int → Int) (slf : Int → Int) (x1 : Int) (x2 : Int) (fu : Nat) (rr : Int) (h_ : f_X5_isHeard fu eh x1 x2 = some rr) : jCI l D y z yX5_isHeard wsX5_isHeard rm_X5_isHeard [.ref (a 0), .int (jI x1), .int (jI x2)] [(wMo y a rc is_ pd pn ho eh mv at_ tk fs lt ea), (wAr y (a 6) 205 stf), (wAr y (a 7) 205 kpf), (wAr y (a 8) 1230 hsf), (wAr y (a 9) 410 slf)] [(wMo y a rc is_ pd pn ho eh mv at_ tk fs lt ea), (wAr y (a 6) 205 stf), (wAr y (a 7) 205 kpf), (wAr y (a 8) 1230 hsf), (wAr y (a 9) 410 slf)] rr := by
  intro sz
  refine jmet (Qc := (fun A => va_Qi (fun v (_ : Unit) => v = jI rr) (jB D A [(wMo y a rc is_ pd pn ho eh mv at_ tk fs lt ea), (wAr y (a 6) 205 stf), (wAr y (a 7) 205 kpf), (wAr y (a 8) 1230 hsf), (wAr y (a 9) 410 slf)]) A)) (cc := cX5_isHeard) (maxL := 3) (ret := (some .boolean)) (own := RX5) (by decide) rfl (Nat.le_of_ble_eq_true rfl) rfl (fun p e s m R args below meth c A ls hR_ hargs_ hx_ hb_ hr_ hlocks_ hml_ hown_ hts_ hname_ hsz_ hP_ hD_ hA_ hM_ hl_ => ?_)
  have key_ : ∀ Q : State → Prop, (∀ (v9 : Int) (H : Heap) (locs : List Loc) (pc : Nat) (ls : Array Slot), some v9 = some rr → (v9 = 0 ∨ v9 = 1) → decode cX5_isHeard pc = .ok (.ireturn, 1) → va_P D vwCl [(wMo y a rc is_ pd pn ho eh mv at_ tk fs lt ea), (wAr y (a 6) 205 stf), (wAr y (a 7) 205 kpf), (wAr y (a 8) 1230 hsf), (wAr y (a 9) 410 slf)].flatten H → va_D A [(wMo y a rc is_ pd pn ho eh mv at_ tk fs lt ea), (wAr y (a 6) 205 stf), (wAr y (a 7) 205 kpf), (wAr y (a 8) 1230 hsf), (wAr y (a 9) 410 slf)].flatten → va_S A s.heap H locs → W p l e R s m args below meth c H locs 0 0 Q (F0 m pc ls [.int (jI v9)])) → W p l e R s m args below meth c s.heap [] 0 0 Q (F0 m 0 ls []) := by
    intro Q hE_
    have hS_ : va_S A s.heap s.heap [] := va_S.rf
    have hl_ : lv_has ls 3 [(0, .ref (a 0)), (1, .int (jI x1)), (2, .int (jI x2))] := hl_
    have hin_ : ∀ w ∈ u_ws RX5 TX5 16, w ∈ wsX5_isHeard := by decide +kernel
    unfold f_X5_isHeard at h_
    refine lv_aload_n hx_ hb_ dX5_isHeard_0 rfl (lv_at hl_ 0 rfl) ?_
    refine va_get (D := D) (ci := 5) (v := .ref (a 4)) (C := RX5) (T := TX5) (N := 16) hx_ hb_ hts_ hin_ hown_ hM_.1 hP_ 0 rfl rfl 9 (by decide) (hts_ (.fieldLink RX5 31 "MusicHolesModel" "heard" "[I") (by decide +kernel)) (fun _ h9_ => h9_) rfl dX5_isHeard_1 ?_
    refine lv_iload_n hx_ hb_ dX5_isHeard_4 rfl (lv_at hl_ 2 rfl) ?_
    refine jx_iald hx_ hb_ hM_ hP_ 4 0 rfl rfl rfl (Nat.le_of_ble_eq_true rfl) h_ dX5_isHeard_5 (fun h_ => ?_)
    refine lv_iload_n hx_ hb_ dX5_isHeard_6 rfl (lv_at hl_ 1 rfl) ?_
    refine jx_ishr hx_ hb_ dX5_isHeard_7 ?_
    refine lv_iconst (v := jI 1) hx_ hb_ dX5_isHeard_8 (by decide +kernel) ?_
    refine jx_iand hx_ hb_ dX5_isHeard_9 ?_
    refine lv_iconst (v := jI 1) hx_ hb_ dX5_isHeard_10 (by decide +kernel) ?_
    refine jx_icmp_ne (tgt := 18) hx_ hb_ h_ dX5_isHeard_11 (by decide) (fun h_ => ?_) (fun h_ => ?_)
    · refine lv_iconst (v := jI 0) hx_ hb_ dX5_isHeard_18 (by decide +kernel) ?_
      obtain ⟨hz_, h_⟩ := jbo_i h_
      exact hE_ _ _ _ _ _ h_ hz_ dX5_isHeard_19 hP_ hD_ hS_
    · refine lv_iconst (v := jI 1) hx_ hb_ dX5_isHeard_14 (by decide +kernel) ?_
      refine lv_goto (tgt := 19) hx_ hb_ dX5_isHeard_15 (by decide) ?_
      obtain ⟨hz_, h_⟩ := jbo_i h_
      exact hE_ _ _ _ _ _ h_ hz_ dX5_isHeard_19 hP_ hD_ hS_
  exact key_ _ (fun v9 H locs pc ls h9_ hz_ hdg_ hP_ hD_ hS_ => by cases h9_; exact jend_z hx_ hb_ hr_ hlocks_ hz_ hP_ hD_ hS_ hdg_)
def rm_X5_begins : Room := { frames := 1, cells := 0, slots := 0, locals := 22 }
set_option maxRecDepth 100000 in
set_option maxHeartbeats 8000000 in
theorem c_X5_begins (l : Launch) (D : va_G) (y : Nat → ClassId) (z : Nat → Nat) (a : Nat → Nat) (rc : Int) (is_ : Int → Int) (pd : Int → Int) (pn : Int) (ho : Int → Int) (eh : Int → Int) (mv : Int → Int) (at_ : Int) (tk : Int) (fs : Int) (lt : Int) (ea : Int) (stf : Int → Int) (kpf : Int → Int) (hsf : Int → Int) (slf : Int → Int) (x1 : Int) (x2 : Int) (fu : Nat) (rr : Int) (h_ : f_X5_begins fu eh x1 x2 = some rr) : jCI l D y z yX5_begins wsX5_begins rm_X5_begins [.ref (a 0), .int (jI x1), .int (jI x2)] [(wMo y a rc is_ pd pn ho eh mv at_ tk fs lt ea), (wAr y (a 6) 205 stf), (wAr y (a 7) 205 kpf), (wAr y (a 8) 1230 hsf), (wAr y (a 9) 410 slf)] [(wMo y a rc is_ pd pn ho eh mv at_ tk fs lt ea), (wAr y (a 6) 205 stf), (wAr y (a 7) 205 kpf), (wAr y (a 8) 1230 hsf), (wAr y (a 9) 410 slf)] rr := by
  intro sz
  refine jmet (Qc := (fun A => va_Qi (fun v (_ : Unit) => v = jI rr) (jB D A [(wMo y a rc is_ pd pn ho eh mv at_ tk fs lt ea), (wAr y (a 6) 205 stf), (wAr y (a 7) 205 kpf), (wAr y (a 8) 1230 hsf), (wAr y (a 9) 410 slf)]) A)) (cc := cX5_begins) (maxL := 3) (ret := (some .boolean)) (own := RX5) (by decide) rfl (Nat.le_of_ble_eq_true rfl) rfl (fun p e s m R args below meth c A ls hR_ hargs_ hx_ hb_ hr_ hlocks_ hml_ hown_ hts_ hname_ hsz_ hP_ hD_ hA_ hM_ hl_ => ?_)
  have key_ : ∀ Q : State → Prop, (∀ (v9 : Int) (H : Heap) (locs : List Loc) (pc : Nat) (ls : Array Slot), some v9 = some rr → (v9 = 0 ∨ v9 = 1) → decode cX5_begins pc = .ok (.ireturn, 1) → va_P D vwCl [(wMo y a rc is_ pd pn ho eh mv at_ tk fs lt ea), (wAr y (a 6) 205 stf), (wAr y (a 7) 205 kpf), (wAr y (a 8) 1230 hsf), (wAr y (a 9) 410 slf)].flatten H → va_D A [(wMo y a rc is_ pd pn ho eh mv at_ tk fs lt ea), (wAr y (a 6) 205 stf), (wAr y (a 7) 205 kpf), (wAr y (a 8) 1230 hsf), (wAr y (a 9) 410 slf)].flatten → va_S A s.heap H locs → W p l e R s m args below meth c H locs 0 0 Q (F0 m pc ls [.int (jI v9)])) → W p l e R s m args below meth c s.heap [] 0 0 Q (F0 m 0 ls []) := by
    intro Q hE_
    have hS_ : va_S A s.heap s.heap [] := va_S.rf
    have hl_ : lv_has ls 3 [(0, .ref (a 0)), (1, .int (jI x1)), (2, .int (jI x2))] := hl_
    have hin_ : ∀ w ∈ u_ws RX5 TX5 16, w ∈ wsX5_begins := by decide +kernel
    unfold f_X5_begins at h_
    refine lv_aload_n hx_ hb_ dX5_begins_0 rfl (lv_at hl_ 0 rfl) ?_
    refine lv_iload_n hx_ hb_ dX5_begins_1 rfl (lv_at hl_ 1 rfl) ?_
    refine lv_iload_n hx_ hb_ dX5_begins_2 rfl (lv_at hl_ 2 rfl) ?_
    obtain ⟨v1, hv1, h_⟩ := jb_i h_
    refine jx_cvi (wr := []) (cw := [(wMo y a rc is_ pd pn ho eh mv at_ tk fs lt ea), (wAr y (a 6) 205 stf), (wAr y (a 7) 205 kpf), (wAr y (a 8) 1230 hsf), (wAr y (a 9) 410 slf)]) (cw1 := [(wMo y a rc is_ pd pn ho eh mv at_ tk fs lt ea), (wAr y (a 6) 205 stf), (wAr y (a 7) 205 kpf), (wAr y (a 8) 1230 hsf), (wAr y (a 9) 410 slf)]) (cs1 := [(wMo y a rc is_ pd pn ho eh mv at_ tk fs lt ea), (wAr y (a 6) 205 stf), (wAr y (a 7) 205 kpf), (wAr y (a 8) 1230 hsf), (wAr y (a 9) 410 slf)]) (As := [.int (jI x1), .int (jI x2)]) (rest := []) ⟨hx_, hb_, hml_, hown_, hts_⟩ hM_ hP_ hD_ hS_ hA_ (List.Perm.refl _) (List.Perm.refl _) (c_X5_isHeard l D y z a rc is_ pd pn ho eh mv at_ tk fs lt ea stf kpf hsf slf x1 x2 fu v1 hv1) 2 gX5_begins_X5_isHeard rfl ⟨rfl, rfl⟩ (by decide +kernel) ⟨by rw [hR_]; exact Nat.le_of_ble_eq_true rfl, by rw [hR_]; exact Nat.le_of_ble_eq_true rfl⟩ 0 5 rfl rfl rfl rfl rfl hl_.1 (Nat.le_of_ble_eq_true rfl) dX5_begins_3 ⟨Nat.zero_le _, Nat.zero_le _⟩ (fun H locs hP_ hD_ hS_ => ?_)
    refine jx_if_eq (tgt := 28) hx_ hb_ h_ dX5_begins_6 (by decide) (fun h_ => ?_) (fun h_ => ?_)
    · refine lv_iconst (v := jI 0) hx_ hb_ dX5_begins_28 (by decide +kernel) ?_
      obtain ⟨hz_, h_⟩ := jbo_i h_
      exact hE_ _ _ _ _ _ h_ hz_ dX5_begins_29 hP_ hD_ hS_
    · refine lv_iload_n hx_ hb_ dX5_begins_9 rfl (lv_at hl_ 2 rfl) ?_
      refine jx_if_eq (tgt := 24) hx_ hb_ h_ dX5_begins_10 (by decide) (fun h_ => ?_) (fun h_ => ?_)
      · refine lv_iconst (v := jI 1) hx_ hb_ dX5_begins_24 (by decide +kernel) ?_
        refine lv_goto (tgt := 29) hx_ hb_ dX5_begins_25 (by decide) ?_
        obtain ⟨hz_, h_⟩ := jbo_i h_
        exact hE_ _ _ _ _ _ h_ hz_ dX5_begins_29 hP_ hD_ hS_
      · refine lv_aload_n hx_ hb_ dX5_begins_13 rfl (lv_at hl_ 0 rfl) ?_
        refine lv_iload_n hx_ hb_ dX5_begins_14 rfl (lv_at hl_ 1 rfl) ?_
        refine lv_iload_n hx_ hb_ dX5_begins_15 rfl (lv_at hl_ 2 rfl) ?_
        refine lv_iconst (v := jI 1) hx_ hb_ dX5_begins_16 (by decide +kernel) ?_
        refine jx_isub hx_ hb_ dX5_begins_17 ?_
        obtain ⟨v2, hv2, h_⟩ := jb_i h_
        refine jx_cvi (wr := []) (cw := [(wMo y a rc is_ pd pn ho eh mv at_ tk fs lt ea), (wAr y (a 6) 205 stf), (wAr y (a 7) 205 kpf), (wAr y (a 8) 1230 hsf), (wAr y (a 9) 410 slf)]) (cw1 := [(wMo y a rc is_ pd pn ho eh mv at_ tk fs lt ea), (wAr y (a 6) 205 stf), (wAr y (a 7) 205 kpf), (wAr y (a 8) 1230 hsf), (wAr y (a 9) 410 slf)]) (cs1 := [(wMo y a rc is_ pd pn ho eh mv at_ tk fs lt ea), (wAr y (a 6) 205 stf), (wAr y (a 7) 205 kpf), (wAr y (a 8) 1230 hsf), (wAr y (a 9) 410 slf)]) (As := [.int (jI x1), .int (jI (x2 - 1))]) (rest := []) ⟨hx_, hb_, hml_, hown_, hts_⟩ hM_ hP_ hD_ hS_ hA_ (List.Perm.refl _) (List.Perm.refl _) (c_X5_isHeard l D y z a rc is_ pd pn ho eh mv at_ tk fs lt ea stf kpf hsf slf x1 (x2 - 1) fu v2 hv2) 2 gX5_begins_X5_isHeard rfl ⟨rfl, rfl⟩ (by decide +kernel) ⟨by rw [hR_]; exact Nat.le_of_ble_eq_true rfl, by rw [hR_]; exact Nat.le_of_ble_eq_true rfl⟩ 0 5 rfl rfl rfl rfl rfl hl_.1 (Nat.le_of_ble_eq_true rfl) dX5_begins_18 ⟨Nat.zero_le _, Nat.zero_le _⟩ (fun H locs hP_ hD_ hS_ => ?_)
        refine jx_if_ne (tgt := 28) hx_ hb_ h_ dX5_begins_21 (by decide) (fun h_ => ?_) (fun h_ => ?_)
        · refine lv_iconst (v := jI 0) hx_ hb_ dX5_begins_28 (by decide +kernel) ?_
          obtain ⟨hz_, h_⟩ := jbo_i h_
          exact hE_ _ _ _ _ _ h_ hz_ dX5_begins_29 hP_ hD_ hS_
        · refine lv_iconst (v := jI 1) hx_ hb_ dX5_begins_24 (by decide +kernel) ?_
          refine lv_goto (tgt := 29) hx_ hb_ dX5_begins_25 (by decide) ?_
          obtain ⟨hz_, h_⟩ := jbo_i h_
          exact hE_ _ _ _ _ _ h_ hz_ dX5_begins_29 hP_ hD_ hS_
  exact key_ _ (fun v9 H locs pc ls h9_ hz_ hdg_ hP_ hD_ hS_ => by cases h9_; exact jend_z hx_ hb_ hr_ hlocks_ hz_ hP_ hD_ hS_ hdg_)
def rm_X5_beginOf : Room := { frames := 2, cells := 0, slots := 0, locals := 44 }
set_option maxRecDepth 100000 in
set_option maxHeartbeats 8000000 in
theorem c_X5_beginOf (l : Launch) (D : va_G) (y : Nat → ClassId) (z : Nat → Nat) (a : Nat → Nat) (rc : Int) (is_ : Int → Int) (pd : Int → Int) (pn : Int) (ho : Int → Int) (eh : Int → Int) (mv : Int → Int) (at_ : Int) (tk : Int) (fs : Int) (lt : Int) (ea : Int) (stf : Int → Int) (kpf : Int → Int) (hsf : Int → Int) (slf : Int → Int) (x1 : Int) (x2 : Int) (fu : Nat) (rr : Int) (h_ : f_X5_beginOf fu eh x1 x2 = some rr) : jCI l D y z yX5_beginOf wsX5_beginOf rm_X5_beginOf [.ref (a 0), .int (jI x1), .int (jI x2)] [(wMo y a rc is_ pd pn ho eh mv at_ tk fs lt ea), (wAr y (a 6) 205 stf), (wAr y (a 7) 205 kpf), (wAr y (a 8) 1230 hsf), (wAr y (a 9) 410 slf)] [(wMo y a rc is_ pd pn ho eh mv at_ tk fs lt ea), (wAr y (a 6) 205 stf), (wAr y (a 7) 205 kpf), (wAr y (a 8) 1230 hsf), (wAr y (a 9) 410 slf)] rr := by
  intro sz
  refine jmet (Qc := (fun A => va_Qi (fun v (_ : Unit) => v = jI rr) (jB D A [(wMo y a rc is_ pd pn ho eh mv at_ tk fs lt ea), (wAr y (a 6) 205 stf), (wAr y (a 7) 205 kpf), (wAr y (a 8) 1230 hsf), (wAr y (a 9) 410 slf)]) A)) (cc := cX5_beginOf) (maxL := 6) (ret := (some .int)) (own := RX5) (by decide) rfl (Nat.le_of_ble_eq_true rfl) rfl (fun p e s m R args below meth c A ls hR_ hargs_ hx_ hb_ hr_ hlocks_ hml_ hown_ hts_ hname_ hsz_ hP_ hD_ hA_ hM_ hl_ => ?_)
  have key_ : ∀ Q : State → Prop, (∀ (v9 : Int) (H : Heap) (locs : List Loc) (pc : Nat) (ls : Array Slot), some v9 = some rr → decode cX5_beginOf pc = .ok (.ireturn, 1) → va_P D vwCl [(wMo y a rc is_ pd pn ho eh mv at_ tk fs lt ea), (wAr y (a 6) 205 stf), (wAr y (a 7) 205 kpf), (wAr y (a 8) 1230 hsf), (wAr y (a 9) 410 slf)].flatten H → va_D A [(wMo y a rc is_ pd pn ho eh mv at_ tk fs lt ea), (wAr y (a 6) 205 stf), (wAr y (a 7) 205 kpf), (wAr y (a 8) 1230 hsf), (wAr y (a 9) 410 slf)].flatten → va_S A s.heap H locs → W p l e R s m args below meth c H locs 0 0 Q (F0 m pc ls [.int (jI v9)])) → W p l e R s m args below meth c s.heap [] 0 0 Q (F0 m 0 ls []) := by
    intro Q hE_
    have hS_ : va_S A s.heap s.heap [] := va_S.rf
    have hl_ : lv_has ls 6 [(0, .ref (a 0)), (1, .int (jI x1)), (2, .int (jI x2))] := hl_
    have hin_ : ∀ w ∈ u_ws RX5 TX5 16, w ∈ wsX5_beginOf := by decide +kernel
    unfold f_X5_beginOf at h_
    refine lv_iload_n hx_ hb_ dX5_beginOf_0 rfl (lv_at hl_ 2 rfl) ?_
    refine lv_istore_n (lv' := [(3, .int (jI x2)), (0, .ref (a 0)), (1, .int (jI x1)), (2, .int (jI x2))]) hx_ hb_ dX5_beginOf_1 rfl hl_ (by decide) rfl (fun ls hl_ => ?_)
    refine lv_bipush (v := jI (-6)) hx_ hb_ dX5_beginOf_2 (by decide +kernel) ?_
    refine lv_istore (lv' := [(4, .int (jI (-6))), (3, .int (jI x2)), (0, .ref (a 0)), (1, .int (jI x1)), (2, .int (jI x2))]) hx_ hb_ dX5_beginOf_4 hl_ (by decide) rfl (fun ls hl_ => ?_)
    refine lv_iconst (v := jI 0) hx_ hb_ dX5_beginOf_6 (by decide +kernel) ?_
    refine lv_istore (lv' := [(5, .int (jI 0)), (4, .int (jI (-6))), (3, .int (jI x2)), (0, .ref (a 0)), (1, .int (jI x1)), (2, .int (jI x2))]) hx_ hb_ dX5_beginOf_7 hl_ (by decide) rfl (fun ls hl_ => ?_)
    have hX63 : ∀ (v1 : Int) (H : Heap) (locs : List Loc) (ls : Array Slot), f_X5_beginOf_X63 fu v1 = some rr → va_P D vwCl [(wMo y a rc is_ pd pn ho eh mv at_ tk fs lt ea), (wAr y (a 6) 205 stf), (wAr y (a 7) 205 kpf), (wAr y (a 8) 1230 hsf), (wAr y (a 9) 410 slf)].flatten H → va_D A [(wMo y a rc is_ pd pn ho eh mv at_ tk fs lt ea), (wAr y (a 6) 205 stf), (wAr y (a 7) 205 kpf), (wAr y (a 8) 1230 hsf), (wAr y (a 9) 410 slf)].flatten → va_S A s.heap H locs → lv_has ls 6 [(4, .int (jI v1))] → W p l e R s m args below meth c H locs 0 0 Q (F0 m 63 ls []) := by
      intro v1 H locs ls h_ hP_ hD_ hS_ hl_
      unfold f_X5_beginOf_X63 at h_
      refine lv_iload hx_ hb_ dX5_beginOf_63 (lv_at hl_ 0 rfl) ?_
      exact hE_ _ _ _ _ _ h_ dX5_beginOf_65 hP_ hD_ hS_
    have hL9 : ∀ n9 : Nat, ∀ (v2 : Int) (v3 : Int) (v4 : Int) (H : Heap) (locs : List Loc) (ls : Array Slot), f_X5_beginOf_L9 fu eh x1 (f_X5_beginOf_X63 fu) n9 v2 v3 v4 = some rr → va_P D vwCl [(wMo y a rc is_ pd pn ho eh mv at_ tk fs lt ea), (wAr y (a 6) 205 stf), (wAr y (a 7) 205 kpf), (wAr y (a 8) 1230 hsf), (wAr y (a 9) 410 slf)].flatten H → va_D A [(wMo y a rc is_ pd pn ho eh mv at_ tk fs lt ea), (wAr y (a 6) 205 stf), (wAr y (a 7) 205 kpf), (wAr y (a 8) 1230 hsf), (wAr y (a 9) 410 slf)].flatten → va_S A s.heap H locs → lv_has ls 6 [(0, .ref (a 0)), (1, .int (jI x1)), (3, .int (jI v2)), (4, .int (jI v3)), (5, .int (jI v4))] → W p l e R s m args below meth c H locs 0 0 Q (F0 m 9 ls []) := by
      intro n9
      induction n9 with
      | zero => intro _ _ _ H locs ls h_; have h_ : (none : Option (Int)) = some rr := h_; cases h_
      | succ n9 ih9 =>
        intro v2 v3 v4 H locs ls h_ hP_ hD_ hS_ hl_
        replace h_ : f_X5_beginOf_L9_b fu eh x1 (f_X5_beginOf_X63 fu) (f_X5_beginOf_L9 fu eh x1 (f_X5_beginOf_X63 fu) n9) v2 v3 v4 = some rr := h_
        unfold f_X5_beginOf_L9_b at h_
        refine lv_iload hx_ hb_ dX5_beginOf_9 (lv_at hl_ 4 rfl) ?_
        refine lv_bipush (v := jI 100) hx_ hb_ dX5_beginOf_11 (by decide +kernel) ?_
        refine jx_icmp_ge (tgt := 63) hx_ hb_ h_ dX5_beginOf_13 (by decide) (fun h_ => ?_) (fun h_ => ?_)
        · exact hX63 _ _ _ ls h_ hP_ hD_ hS_ (lv_sub hl_ [3] rfl)
        · refine lv_aload_n hx_ hb_ dX5_beginOf_16 rfl (lv_at hl_ 0 rfl) ?_
          refine lv_iload_n hx_ hb_ dX5_beginOf_17 rfl (lv_at hl_ 1 rfl) ?_
          refine lv_iload hx_ hb_ dX5_beginOf_18 (lv_at hl_ 4 rfl) ?_
          obtain ⟨v5, hv5, h_⟩ := jb_i h_
          refine jx_cvi (wr := []) (cw := [(wMo y a rc is_ pd pn ho eh mv at_ tk fs lt ea), (wAr y (a 6) 205 stf), (wAr y (a 7) 205 kpf), (wAr y (a 8) 1230 hsf), (wAr y (a 9) 410 slf)]) (cw1 := [(wMo y a rc is_ pd pn ho eh mv at_ tk fs lt ea), (wAr y (a 6) 205 stf), (wAr y (a 7) 205 kpf), (wAr y (a 8) 1230 hsf), (wAr y (a 9) 410 slf)]) (cs1 := [(wMo y a rc is_ pd pn ho eh mv at_ tk fs lt ea), (wAr y (a 6) 205 stf), (wAr y (a 7) 205 kpf), (wAr y (a 8) 1230 hsf), (wAr y (a 9) 410 slf)]) (As := [.int (jI x1), .int (jI v4)]) (rest := []) ⟨hx_, hb_, hml_, hown_, hts_⟩ hM_ hP_ hD_ hS_ hA_ (List.Perm.refl _) (List.Perm.refl _) (c_X5_begins l D y z a rc is_ pd pn ho eh mv at_ tk fs lt ea stf kpf hsf slf x1 v4 fu v5 hv5) 2 gX5_beginOf_X5_begins rfl ⟨rfl, rfl⟩ (by decide +kernel) ⟨by rw [hR_]; exact Nat.le_of_ble_eq_true rfl, by rw [hR_]; exact Nat.le_of_ble_eq_true rfl⟩ 0 5 rfl rfl rfl rfl rfl hl_.1 (Nat.le_of_ble_eq_true rfl) dX5_beginOf_20 ⟨Nat.zero_le _, Nat.zero_le _⟩ (fun H locs hP_ hD_ hS_ => ?_)
          have hJ37 : ∀ (v6 : Int) (H : Heap) (locs : List Loc) (ls : Array Slot), f_X5_beginOf_J37 fu eh x1 v2 v4 (f_X5_beginOf_L9 fu eh x1 (f_X5_beginOf_X63 fu) n9) v6 = some rr → va_P D vwCl [(wMo y a rc is_ pd pn ho eh mv at_ tk fs lt ea), (wAr y (a 6) 205 stf), (wAr y (a 7) 205 kpf), (wAr y (a 8) 1230 hsf), (wAr y (a 9) 410 slf)].flatten H → va_D A [(wMo y a rc is_ pd pn ho eh mv at_ tk fs lt ea), (wAr y (a 6) 205 stf), (wAr y (a 7) 205 kpf), (wAr y (a 8) 1230 hsf), (wAr y (a 9) 410 slf)].flatten → va_S A s.heap H locs → lv_has ls 6 [(0, .ref (a 0)), (1, .int (jI x1)), (3, .int (jI v2)), (5, .int (jI v4))] → W p l e R s m args below meth c H locs 0 0 Q (F0 m 37 ls [.int (jI v6)]) := by
            intro v6 H locs ls h_ hP_ hD_ hS_ hl_
            unfold f_X5_beginOf_J37 at h_
            refine lv_istore (lv' := [(4, .int (jI v6)), (0, .ref (a 0)), (1, .int (jI x1)), (3, .int (jI v2)), (5, .int (jI v4))]) hx_ hb_ dX5_beginOf_37 hl_ (by decide) rfl (fun ls hl_ => ?_)
            refine lv_iload_n hx_ hb_ dX5_beginOf_39 rfl (lv_at hl_ 3 rfl) ?_
            refine lv_aload_n hx_ hb_ dX5_beginOf_40 rfl (lv_at hl_ 1 rfl) ?_
            refine lv_iload_n hx_ hb_ dX5_beginOf_41 rfl (lv_at hl_ 2 rfl) ?_
            refine lv_iload hx_ hb_ dX5_beginOf_42 (lv_at hl_ 4 rfl) ?_
            obtain ⟨v7, hv7, h_⟩ := jb_i h_
            refine jx_cvi (wr := []) (cw := [(wMo y a rc is_ pd pn ho eh mv at_ tk fs lt ea), (wAr y (a 6) 205 stf), (wAr y (a 7) 205 kpf), (wAr y (a 8) 1230 hsf), (wAr y (a 9) 410 slf)]) (cw1 := [(wMo y a rc is_ pd pn ho eh mv at_ tk fs lt ea), (wAr y (a 6) 205 stf), (wAr y (a 7) 205 kpf), (wAr y (a 8) 1230 hsf), (wAr y (a 9) 410 slf)]) (cs1 := [(wMo y a rc is_ pd pn ho eh mv at_ tk fs lt ea), (wAr y (a 6) 205 stf), (wAr y (a 7) 205 kpf), (wAr y (a 8) 1230 hsf), (wAr y (a 9) 410 slf)]) (As := [.int (jI x1), .int (jI v4)]) (rest := [.int (jI v2)]) ⟨hx_, hb_, hml_, hown_, hts_⟩ hM_ hP_ hD_ hS_ hA_ (List.Perm.refl _) (List.Perm.refl _) (c_X5_begins l D y z a rc is_ pd pn ho eh mv at_ tk fs lt ea stf kpf hsf slf x1 v4 fu v7 hv7) 2 gX5_beginOf_X5_begins rfl ⟨rfl, rfl⟩ (by decide +kernel) ⟨by rw [hR_]; exact Nat.le_of_ble_eq_true rfl, by rw [hR_]; exact Nat.le_of_ble_eq_true rfl⟩ 0 5 rfl rfl rfl rfl rfl hl_.1 (Nat.le_of_ble_eq_true rfl) dX5_beginOf_44 ⟨Nat.zero_le _, Nat.zero_le _⟩ (fun H locs hP_ hD_ hS_ => ?_)
            refine jx_if_eq (tgt := 54) hx_ hb_ h_ dX5_beginOf_47 (by decide) (fun h_ => ?_) (fun h_ => ?_)
            · refine lv_iconst (v := jI 0) hx_ hb_ dX5_beginOf_54 (by decide +kernel) ?_
              refine jx_isub hx_ hb_ dX5_beginOf_55 ?_
              refine lv_istore_n (lv' := [(3, .int (jI (v2 - 0))), (4, .int (jI v6)), (0, .ref (a 0)), (1, .int (jI x1)), (5, .int (jI v4))]) hx_ hb_ dX5_beginOf_56 rfl hl_ (by decide) rfl (fun ls hl_ => ?_)
              refine lv_iinc (v := jI (v4 + 1)) (lv' := [(5, .int (jI (v4 + 1))), (3, .int (jI (v2 - 0))), (4, .int (jI v6)), (0, .ref (a 0)), (1, .int (jI x1))]) hx_ hb_ dX5_beginOf_57 hl_ (k := 4) rfl (jI_add _ _) (by decide) rfl (fun ls hl_ => ?_)
              refine lv_goto (tgt := 9) hx_ hb_ dX5_beginOf_60 (by decide) ?_
              exact ih9 _ _ _ _ _ ls h_ hP_ hD_ hS_ (lv_sub hl_ [3, 4, 1, 2, 0] rfl)
            · refine lv_iconst (v := jI 1) hx_ hb_ dX5_beginOf_50 (by decide +kernel) ?_
              refine lv_goto (tgt := 55) hx_ hb_ dX5_beginOf_51 (by decide) ?_
              refine jx_isub hx_ hb_ dX5_beginOf_55 ?_
              refine lv_istore_n (lv' := [(3, .int (jI (v2 - 1))), (4, .int (jI v6)), (0, .ref (a 0)), (1, .int (jI x1)), (5, .int (jI v4))]) hx_ hb_ dX5_beginOf_56 rfl hl_ (by decide) rfl (fun ls hl_ => ?_)
              refine lv_iinc (v := jI (v4 + 1)) (lv' := [(5, .int (jI (v4 + 1))), (3, .int (jI (v2 - 1))), (4, .int (jI v6)), (0, .ref (a 0)), (1, .int (jI x1))]) hx_ hb_ dX5_beginOf_57 hl_ (k := 4) rfl (jI_add _ _) (by decide) rfl (fun ls hl_ => ?_)
              refine lv_goto (tgt := 9) hx_ hb_ dX5_beginOf_60 (by decide) ?_
              exact ih9 _ _ _ _ _ ls h_ hP_ hD_ hS_ (lv_sub hl_ [3, 4, 1, 2, 0] rfl)
          have hJ35 : ∀  (H : Heap) (locs : List Loc) (ls : Array Slot), f_X5_beginOf_J35 fu eh x1 v2 v3 v4 (f_X5_beginOf_L9 fu eh x1 (f_X5_beginOf_X63 fu) n9) = some rr → va_P D vwCl [(wMo y a rc is_ pd pn ho eh mv at_ tk fs lt ea), (wAr y (a 6) 205 stf), (wAr y (a 7) 205 kpf), (wAr y (a 8) 1230 hsf), (wAr y (a 9) 410 slf)].flatten H → va_D A [(wMo y a rc is_ pd pn ho eh mv at_ tk fs lt ea), (wAr y (a 6) 205 stf), (wAr y (a 7) 205 kpf), (wAr y (a 8) 1230 hsf), (wAr y (a 9) 410 slf)].flatten → va_S A s.heap H locs → lv_has ls 6 [(0, .ref (a 0)), (1, .int (jI x1)), (3, .int (jI v2)), (4, .int (jI v3)), (5, .int (jI v4))] → W p l e R s m args below meth c H locs 0 0 Q (F0 m 35 ls []) := by
            intro  H locs ls h_ hP_ hD_ hS_ hl_
            unfold f_X5_beginOf_J35 at h_
            refine lv_iload hx_ hb_ dX5_beginOf_35 (lv_at hl_ 3 rfl) ?_
            exact hJ37 _ _ _ ls h_ hP_ hD_ hS_ (lv_sub hl_ [0, 1, 2, 4] rfl)
          refine jx_if_eq (tgt := 35) hx_ hb_ h_ dX5_beginOf_23 (by decide) (fun h_ => ?_) (fun h_ => ?_)
          · exact hJ35  _ _ ls h_ hP_ hD_ hS_ (lv_sub hl_ [0, 1, 2, 3, 4] rfl)
          · refine lv_iload_n hx_ hb_ dX5_beginOf_26 rfl (lv_at hl_ 2 rfl) ?_
            refine jx_if_ne (tgt := 35) hx_ hb_ h_ dX5_beginOf_27 (by decide) (fun h_ => ?_) (fun h_ => ?_)
            · exact hJ35  _ _ ls h_ hP_ hD_ hS_ (lv_sub hl_ [0, 1, 2, 3, 4] rfl)
            · refine lv_iload hx_ hb_ dX5_beginOf_30 (lv_at hl_ 4 rfl) ?_
              refine lv_goto (tgt := 37) hx_ hb_ dX5_beginOf_32 (by decide) ?_
              exact hJ37 _ _ _ ls h_ hP_ hD_ hS_ (lv_sub hl_ [0, 1, 2, 4] rfl)
    exact hL9 fu _ _ _ _ _ ls h_ hP_ hD_ hS_ (lv_sub hl_ [3, 4, 2, 1, 0] rfl)
  exact key_ _ (fun v9 H locs pc ls h9_ hdg_ hP_ hD_ hS_ => by cases h9_; exact jend_i hx_ hb_ hr_ hlocks_ hP_ hD_ hS_ hdg_)
def rm_X5_endOf : Room := { frames := 1, cells := 0, slots := 0, locals := 22 }
set_option maxRecDepth 100000 in
set_option maxHeartbeats 8000000 in
theorem c_X5_endOf (l : Launch) (D : va_G) (y : Nat → ClassId) (z : Nat → Nat) (a : Nat → Nat) (rc : Int) (is_ : Int → Int) (pd : Int → Int) (pn : Int) (ho : Int → Int) (eh : Int → Int) (mv : Int → Int) (at_ : Int) (tk : Int) (fs : Int) (lt : Int) (ea : Int) (stf : Int → Int) (kpf : Int → Int) (hsf : Int → Int) (slf : Int → Int) (x1 : Int) (x2 : Int) (fu : Nat) (rr : Int) (h_ : f_X5_endOf fu eh x1 x2 = some rr) : jCI l D y z yX5_endOf wsX5_endOf rm_X5_endOf [.ref (a 0), .int (jI x1), .int (jI x2)] [(wMo y a rc is_ pd pn ho eh mv at_ tk fs lt ea), (wAr y (a 6) 205 stf), (wAr y (a 7) 205 kpf), (wAr y (a 8) 1230 hsf), (wAr y (a 9) 410 slf)] [(wMo y a rc is_ pd pn ho eh mv at_ tk fs lt ea), (wAr y (a 6) 205 stf), (wAr y (a 7) 205 kpf), (wAr y (a 8) 1230 hsf), (wAr y (a 9) 410 slf)] rr := by
  intro sz
  refine jmet (Qc := (fun A => va_Qi (fun v (_ : Unit) => v = jI rr) (jB D A [(wMo y a rc is_ pd pn ho eh mv at_ tk fs lt ea), (wAr y (a 6) 205 stf), (wAr y (a 7) 205 kpf), (wAr y (a 8) 1230 hsf), (wAr y (a 9) 410 slf)]) A)) (cc := cX5_endOf) (maxL := 4) (ret := (some .int)) (own := RX5) (by decide) rfl (Nat.le_of_ble_eq_true rfl) rfl (fun p e s m R args below meth c A ls hR_ hargs_ hx_ hb_ hr_ hlocks_ hml_ hown_ hts_ hname_ hsz_ hP_ hD_ hA_ hM_ hl_ => ?_)
  have key_ : ∀ Q : State → Prop, (∀ (v9 : Int) (H : Heap) (locs : List Loc) (pc : Nat) (ls : Array Slot), some v9 = some rr → decode cX5_endOf pc = .ok (.ireturn, 1) → va_P D vwCl [(wMo y a rc is_ pd pn ho eh mv at_ tk fs lt ea), (wAr y (a 6) 205 stf), (wAr y (a 7) 205 kpf), (wAr y (a 8) 1230 hsf), (wAr y (a 9) 410 slf)].flatten H → va_D A [(wMo y a rc is_ pd pn ho eh mv at_ tk fs lt ea), (wAr y (a 6) 205 stf), (wAr y (a 7) 205 kpf), (wAr y (a 8) 1230 hsf), (wAr y (a 9) 410 slf)].flatten → va_S A s.heap H locs → W p l e R s m args below meth c H locs 0 0 Q (F0 m pc ls [.int (jI v9)])) → W p l e R s m args below meth c s.heap [] 0 0 Q (F0 m 0 ls []) := by
    intro Q hE_
    have hS_ : va_S A s.heap s.heap [] := va_S.rf
    have hl_ : lv_has ls 4 [(0, .ref (a 0)), (1, .int (jI x1)), (2, .int (jI x2))] := hl_
    have hin_ : ∀ w ∈ u_ws RX5 TX5 16, w ∈ wsX5_endOf := by decide +kernel
    unfold f_X5_endOf at h_
    refine lv_iload_n hx_ hb_ dX5_endOf_0 rfl (lv_at hl_ 2 rfl) ?_
    refine lv_istore_n (lv' := [(3, .int (jI x2)), (0, .ref (a 0)), (1, .int (jI x1)), (2, .int (jI x2))]) hx_ hb_ dX5_endOf_1 rfl hl_ (by decide) rfl (fun ls hl_ => ?_)
    have hX27 : ∀ (v1 : Int) (H : Heap) (locs : List Loc) (ls : Array Slot), f_X5_endOf_X27 fu v1 = some rr → va_P D vwCl [(wMo y a rc is_ pd pn ho eh mv at_ tk fs lt ea), (wAr y (a 6) 205 stf), (wAr y (a 7) 205 kpf), (wAr y (a 8) 1230 hsf), (wAr y (a 9) 410 slf)].flatten H → va_D A [(wMo y a rc is_ pd pn ho eh mv at_ tk fs lt ea), (wAr y (a 6) 205 stf), (wAr y (a 7) 205 kpf), (wAr y (a 8) 1230 hsf), (wAr y (a 9) 410 slf)].flatten → va_S A s.heap H locs → lv_has ls 4 [(3, .int (jI v1))] → W p l e R s m args below meth c H locs 0 0 Q (F0 m 27 ls []) := by
      intro v1 H locs ls h_ hP_ hD_ hS_ hl_
      unfold f_X5_endOf_X27 at h_
      refine lv_iload_n hx_ hb_ dX5_endOf_27 rfl (lv_at hl_ 0 rfl) ?_
      exact hE_ _ _ _ _ _ h_ dX5_endOf_28 hP_ hD_ hS_
    have hL2 : ∀ n2 : Nat, ∀ (v2 : Int) (H : Heap) (locs : List Loc) (ls : Array Slot), f_X5_endOf_L2 fu eh x1 (f_X5_endOf_X27 fu) n2 v2 = some rr → va_P D vwCl [(wMo y a rc is_ pd pn ho eh mv at_ tk fs lt ea), (wAr y (a 6) 205 stf), (wAr y (a 7) 205 kpf), (wAr y (a 8) 1230 hsf), (wAr y (a 9) 410 slf)].flatten H → va_D A [(wMo y a rc is_ pd pn ho eh mv at_ tk fs lt ea), (wAr y (a 6) 205 stf), (wAr y (a 7) 205 kpf), (wAr y (a 8) 1230 hsf), (wAr y (a 9) 410 slf)].flatten → va_S A s.heap H locs → lv_has ls 4 [(0, .ref (a 0)), (1, .int (jI x1)), (3, .int (jI v2))] → W p l e R s m args below meth c H locs 0 0 Q (F0 m 2 ls []) := by
      intro n2
      induction n2 with
      | zero => intro _ H locs ls h_; have h_ : (none : Option (Int)) = some rr := h_; cases h_
      | succ n2 ih2 =>
        intro v2 H locs ls h_ hP_ hD_ hS_ hl_
        replace h_ : f_X5_endOf_L2_b fu eh x1 (f_X5_endOf_X27 fu) (f_X5_endOf_L2 fu eh x1 (f_X5_endOf_X27 fu) n2) v2 = some rr := h_
        unfold f_X5_endOf_L2_b at h_
        refine lv_iload_n hx_ hb_ dX5_endOf_2 rfl (lv_at hl_ 2 rfl) ?_
        refine lv_iconst (v := jI 1) hx_ hb_ dX5_endOf_3 (by decide +kernel) ?_
        refine jx_iadd hx_ hb_ dX5_endOf_4 ?_
        refine lv_bipush (v := jI 100) hx_ hb_ dX5_endOf_5 (by decide +kernel) ?_
        refine jx_icmp_ge (tgt := 27) hx_ hb_ h_ dX5_endOf_7 (by decide) (fun h_ => ?_) (fun h_ => ?_)
        · exact hX27 _ _ _ ls h_ hP_ hD_ hS_ (lv_sub hl_ [2] rfl)
        · refine lv_aload_n hx_ hb_ dX5_endOf_10 rfl (lv_at hl_ 0 rfl) ?_
          refine lv_iload_n hx_ hb_ dX5_endOf_11 rfl (lv_at hl_ 1 rfl) ?_
          refine lv_iload_n hx_ hb_ dX5_endOf_12 rfl (lv_at hl_ 2 rfl) ?_
          refine lv_iconst (v := jI 1) hx_ hb_ dX5_endOf_13 (by decide +kernel) ?_
          refine jx_iadd hx_ hb_ dX5_endOf_14 ?_
          obtain ⟨v3, hv3, h_⟩ := jb_i h_
          refine jx_cvi (wr := []) (cw := [(wMo y a rc is_ pd pn ho eh mv at_ tk fs lt ea), (wAr y (a 6) 205 stf), (wAr y (a 7) 205 kpf), (wAr y (a 8) 1230 hsf), (wAr y (a 9) 410 slf)]) (cw1 := [(wMo y a rc is_ pd pn ho eh mv at_ tk fs lt ea), (wAr y (a 6) 205 stf), (wAr y (a 7) 205 kpf), (wAr y (a 8) 1230 hsf), (wAr y (a 9) 410 slf)]) (cs1 := [(wMo y a rc is_ pd pn ho eh mv at_ tk fs lt ea), (wAr y (a 6) 205 stf), (wAr y (a 7) 205 kpf), (wAr y (a 8) 1230 hsf), (wAr y (a 9) 410 slf)]) (As := [.int (jI x1), .int (jI (v2 + 1))]) (rest := []) ⟨hx_, hb_, hml_, hown_, hts_⟩ hM_ hP_ hD_ hS_ hA_ (List.Perm.refl _) (List.Perm.refl _) (c_X5_isHeard l D y z a rc is_ pd pn ho eh mv at_ tk fs lt ea stf kpf hsf slf x1 (v2 + 1) fu v3 hv3) 2 gX5_endOf_X5_isHeard rfl ⟨rfl, rfl⟩ (by decide +kernel) ⟨by rw [hR_]; exact Nat.le_of_ble_eq_true rfl, by rw [hR_]; exact Nat.le_of_ble_eq_true rfl⟩ 0 5 rfl rfl rfl rfl rfl hl_.1 (Nat.le_of_ble_eq_true rfl) dX5_endOf_15 ⟨Nat.zero_le _, Nat.zero_le _⟩ (fun H locs hP_ hD_ hS_ => ?_)
          refine jx_if_eq (tgt := 27) hx_ hb_ h_ dX5_endOf_18 (by decide) (fun h_ => ?_) (fun h_ => ?_)
          · exact hX27 _ _ _ ls h_ hP_ hD_ hS_ (lv_sub hl_ [2] rfl)
          · refine lv_iinc (v := jI (v2 + 1)) (lv' := [(3, .int (jI (v2 + 1))), (0, .ref (a 0)), (1, .int (jI x1))]) hx_ hb_ dX5_endOf_21 hl_ (k := 2) rfl (jI_add _ _) (by decide) rfl (fun ls hl_ => ?_)
            refine lv_goto (tgt := 2) hx_ hb_ dX5_endOf_24 (by decide) ?_
            exact ih2 _ _ _ ls h_ hP_ hD_ hS_ (lv_sub hl_ [1, 2, 0] rfl)
    exact hL2 fu _ _ _ ls h_ hP_ hD_ hS_ (lv_sub hl_ [1, 2, 0] rfl)
  exact key_ _ (fun v9 H locs pc ls h9_ hdg_ hP_ hD_ hS_ => by cases h9_; exact jend_i hx_ hb_ hr_ hlocks_ hP_ hD_ hS_ hdg_)
def rm_X5_soundsMany : Room := { frames := 4, cells := 0, slots := 0, locals := 90 }
set_option maxRecDepth 100000 in
set_option maxHeartbeats 8000000 in
theorem c_X5_soundsMany (l : Launch) (D : va_G) (y : Nat → ClassId) (z : Nat → Nat) (a : Nat → Nat) (rc : Int) (is_ : Int → Int) (pd : Int → Int) (pn : Int) (ho : Int → Int) (eh : Int → Int) (mv : Int → Int) (at_ : Int) (tk : Int) (fs : Int) (lt : Int) (ea : Int) (stf : Int → Int) (kpf : Int → Int) (hsf : Int → Int) (slf : Int → Int)  (fu : Nat) (rr : Int) (q_ho : Int → Int) (q_eh : Int → Int) (h_ : f_X5_soundsMany fu ho eh stf = some (rr, q_ho, q_eh)) : jCI l D y z yX5_soundsMany wsX5_soundsMany rm_X5_soundsMany [.ref (a 0)] [(wMo y a rc is_ pd pn ho eh mv at_ tk fs lt ea), (wAr y (a 6) 205 stf), (wAr y (a 7) 205 kpf), (wAr y (a 8) 1230 hsf), (wAr y (a 9) 410 slf)] [(wMo y a rc is_ pd pn q_ho q_eh mv at_ tk fs lt ea), (wAr y (a 6) 205 stf), (wAr y (a 7) 205 kpf), (wAr y (a 8) 1230 hsf), (wAr y (a 9) 410 slf)] rr := by
  intro sz
  refine jmet (Qc := (fun A => va_Qi (fun v (_ : Unit) => v = jI rr) (jB D A [(wMo y a rc is_ pd pn q_ho q_eh mv at_ tk fs lt ea), (wAr y (a 6) 205 stf), (wAr y (a 7) 205 kpf), (wAr y (a 8) 1230 hsf), (wAr y (a 9) 410 slf)]) A)) (cc := cX5_soundsMany) (maxL := 4) (ret := (some .int)) (own := RX5) (by decide) rfl (Nat.le_of_ble_eq_true rfl) rfl (fun p e s m R args below meth c A ls hR_ hargs_ hx_ hb_ hr_ hlocks_ hml_ hown_ hts_ hname_ hsz_ hP_ hD_ hA_ hM_ hl_ => ?_)
  have key_ : ∀ Q : State → Prop, (∀ (v9 : Int) (ho9 : Int → Int) (eh9 : Int → Int) (H : Heap) (locs : List Loc) (pc : Nat) (ls : Array Slot), some (v9, ho9, eh9) = some (rr, q_ho, q_eh) → decode cX5_soundsMany pc = .ok (.ireturn, 1) → va_P D vwCl [(wMo y a rc is_ pd pn ho9 eh9 mv at_ tk fs lt ea), (wAr y (a 6) 205 stf), (wAr y (a 7) 205 kpf), (wAr y (a 8) 1230 hsf), (wAr y (a 9) 410 slf)].flatten H → va_D A [(wMo y a rc is_ pd pn ho9 eh9 mv at_ tk fs lt ea), (wAr y (a 6) 205 stf), (wAr y (a 7) 205 kpf), (wAr y (a 8) 1230 hsf), (wAr y (a 9) 410 slf)].flatten → va_S A s.heap H locs → W p l e R s m args below meth c H locs 0 0 Q (F0 m pc ls [.int (jI v9)])) → W p l e R s m args below meth c s.heap [] 0 0 Q (F0 m 0 ls []) := by
    intro Q hE_
    have hS_ : va_S A s.heap s.heap [] := va_S.rf
    have hl_ : lv_has ls 4 [(0, .ref (a 0))] := hl_
    have hin_ : ∀ w ∈ u_ws RX5 TX5 16, w ∈ wsX5_soundsMany := by decide +kernel
    unfold f_X5_soundsMany at h_
    refine lv_aload_n hx_ hb_ dX5_soundsMany_0 rfl (lv_at hl_ 0 rfl) ?_
    obtain ⟨ho_m1, eh_m2, hho_m1, h_⟩ := jb2_i h_
    refine jx_cvv (rv := 0) (wr := []) (cw := [(wMo y a rc is_ pd pn ho eh mv at_ tk fs lt ea), (wAr y (a 6) 205 stf), (wAr y (a 7) 205 kpf), (wAr y (a 8) 1230 hsf), (wAr y (a 9) 410 slf)]) (cw1 := [(wMo y a rc is_ pd pn ho_m1 eh_m2 mv at_ tk fs lt ea), (wAr y (a 6) 205 stf), (wAr y (a 7) 205 kpf), (wAr y (a 8) 1230 hsf), (wAr y (a 9) 410 slf)]) (cs1 := [(wMo y a rc is_ pd pn ho_m1 eh_m2 mv at_ tk fs lt ea), (wAr y (a 6) 205 stf), (wAr y (a 7) 205 kpf), (wAr y (a 8) 1230 hsf), (wAr y (a 9) 410 slf)]) (As := []) (rest := []) ⟨hx_, hb_, hml_, hown_, hts_⟩ hM_ hP_ hD_ hS_ hA_ (List.Perm.refl _) (List.Perm.refl _) (c_X5_findHeard l D y z a rc is_ pd pn ho eh mv at_ tk fs lt ea stf kpf hsf slf fu ho_m1 eh_m2 hho_m1) 0 gX5_soundsMany_X5_findHeard rfl ⟨rfl, rfl⟩ (by decide +kernel) ⟨by rw [hR_]; exact Nat.le_of_ble_eq_true rfl, by rw [hR_]; exact Nat.le_of_ble_eq_true rfl⟩ 0 5 rfl rfl rfl rfl rfl hl_.1 (Nat.le_of_ble_eq_true rfl) dX5_soundsMany_1 ⟨Nat.zero_le _, Nat.zero_le _⟩ (fun H locs hP_ hD_ hS_ => ?_)
    refine lv_iconst (v := jI 0) hx_ hb_ dX5_soundsMany_4 (by decide +kernel) ?_
    refine lv_istore_n (lv' := [(1, .int (jI 0)), (0, .ref (a 0))]) hx_ hb_ dX5_soundsMany_5 rfl hl_ (by decide) rfl (fun ls hl_ => ?_)
    refine lv_iconst (v := jI 0) hx_ hb_ dX5_soundsMany_6 (by decide +kernel) ?_
    refine lv_istore_n (lv' := [(2, .int (jI 0)), (1, .int (jI 0)), (0, .ref (a 0))]) hx_ hb_ dX5_soundsMany_7 rfl hl_ (by decide) rfl (fun ls hl_ => ?_)
    have hX51 : ∀ (v3 : Int) (H : Heap) (locs : List Loc) (ls : Array Slot), f_X5_soundsMany_X51 fu ho_m1 eh_m2 v3 = some (rr, q_ho, q_eh) → va_P D vwCl [(wMo y a rc is_ pd pn ho_m1 eh_m2 mv at_ tk fs lt ea), (wAr y (a 6) 205 stf), (wAr y (a 7) 205 kpf), (wAr y (a 8) 1230 hsf), (wAr y (a 9) 410 slf)].flatten H → va_D A [(wMo y a rc is_ pd pn ho_m1 eh_m2 mv at_ tk fs lt ea), (wAr y (a 6) 205 stf), (wAr y (a 7) 205 kpf), (wAr y (a 8) 1230 hsf), (wAr y (a 9) 410 slf)].flatten → va_S A s.heap H locs → lv_has ls 4 [(1, .int (jI v3))] → W p l e R s m args below meth c H locs 0 0 Q (F0 m 51 ls []) := by
      intro v3 H locs ls h_ hP_ hD_ hS_ hl_
      unfold f_X5_soundsMany_X51 at h_
      refine lv_iload_n hx_ hb_ dX5_soundsMany_51 rfl (lv_at hl_ 0 rfl) ?_
      exact hE_ _ _ _ _ _ _ _ h_ dX5_soundsMany_52 hP_ hD_ hS_
    have hL8 : ∀ n8 : Nat, ∀ (v4 : Int) (v5 : Int) (H : Heap) (locs : List Loc) (ls : Array Slot), f_X5_soundsMany_L8 fu eh_m2 (f_X5_soundsMany_X51 fu ho_m1 eh_m2) n8 v4 v5 = some (rr, q_ho, q_eh) → va_P D vwCl [(wMo y a rc is_ pd pn ho_m1 eh_m2 mv at_ tk fs lt ea), (wAr y (a 6) 205 stf), (wAr y (a 7) 205 kpf), (wAr y (a 8) 1230 hsf), (wAr y (a 9) 410 slf)].flatten H → va_D A [(wMo y a rc is_ pd pn ho_m1 eh_m2 mv at_ tk fs lt ea), (wAr y (a 6) 205 stf), (wAr y (a 7) 205 kpf), (wAr y (a 8) 1230 hsf), (wAr y (a 9) 410 slf)].flatten → va_S A s.heap H locs → lv_has ls 4 [(0, .ref (a 0)), (1, .int (jI v4)), (2, .int (jI v5))] → W p l e R s m args below meth c H locs 0 0 Q (F0 m 8 ls []) := by
      intro n8
      induction n8 with
      | zero => intro _ _ H locs ls h_; have h_ : (none : Option (Int × (Int → Int) × (Int → Int))) = some (rr, q_ho, q_eh) := h_; cases h_
      | succ n8 ih8 =>
        intro v4 v5 H locs ls h_ hP_ hD_ hS_ hl_
        replace h_ : f_X5_soundsMany_L8_b fu eh_m2 (f_X5_soundsMany_X51 fu ho_m1 eh_m2) (f_X5_soundsMany_L8 fu eh_m2 (f_X5_soundsMany_X51 fu ho_m1 eh_m2) n8) v4 v5 = some (rr, q_ho, q_eh) := h_
        unfold f_X5_soundsMany_L8_b at h_
        refine lv_iload_n hx_ hb_ dX5_soundsMany_8 rfl (lv_at hl_ 2 rfl) ?_
        refine lv_bipush (v := jI 12) hx_ hb_ dX5_soundsMany_9 (by decide +kernel) ?_
        refine jx_icmp_ge (tgt := 51) hx_ hb_ h_ dX5_soundsMany_11 (by decide) (fun h_ => ?_) (fun h_ => ?_)
        · exact hX51 _ _ _ ls h_ hP_ hD_ hS_ (lv_sub hl_ [1] rfl)
        · refine lv_iconst (v := jI 0) hx_ hb_ dX5_soundsMany_14 (by decide +kernel) ?_
          refine lv_istore_n (lv' := [(3, .int (jI 0)), (0, .ref (a 0)), (1, .int (jI v4)), (2, .int (jI v5))]) hx_ hb_ dX5_soundsMany_15 rfl hl_ (by decide) rfl (fun ls hl_ => ?_)
          have hX45 : ∀ (v6 : Int) (H : Heap) (locs : List Loc) (ls : Array Slot), f_X5_soundsMany_X45 fu v5 (f_X5_soundsMany_L8 fu eh_m2 (f_X5_soundsMany_X51 fu ho_m1 eh_m2) n8) v6 = some (rr, q_ho, q_eh) → va_P D vwCl [(wMo y a rc is_ pd pn ho_m1 eh_m2 mv at_ tk fs lt ea), (wAr y (a 6) 205 stf), (wAr y (a 7) 205 kpf), (wAr y (a 8) 1230 hsf), (wAr y (a 9) 410 slf)].flatten H → va_D A [(wMo y a rc is_ pd pn ho_m1 eh_m2 mv at_ tk fs lt ea), (wAr y (a 6) 205 stf), (wAr y (a 7) 205 kpf), (wAr y (a 8) 1230 hsf), (wAr y (a 9) 410 slf)].flatten → va_S A s.heap H locs → lv_has ls 4 [(0, .ref (a 0)), (1, .int (jI v6)), (2, .int (jI v5))] → W p l e R s m args below meth c H locs 0 0 Q (F0 m 45 ls []) := by
            intro v6 H locs ls h_ hP_ hD_ hS_ hl_
            unfold f_X5_soundsMany_X45 at h_
            refine lv_iinc (v := jI (v5 + 1)) (lv' := [(2, .int (jI (v5 + 1))), (0, .ref (a 0)), (1, .int (jI v6))]) hx_ hb_ dX5_soundsMany_45 hl_ (k := 2) rfl (jI_add _ _) (by decide) rfl (fun ls hl_ => ?_)
            refine lv_goto (tgt := 8) hx_ hb_ dX5_soundsMany_48 (by decide) ?_
            exact ih8 _ _ _ _ ls h_ hP_ hD_ hS_ (lv_sub hl_ [1, 2, 0] rfl)
          have hL16 : ∀ n16 : Nat, ∀ (v7 : Int) (v8 : Int) (H : Heap) (locs : List Loc) (ls : Array Slot), f_X5_soundsMany_L16 fu eh_m2 v5 (f_X5_soundsMany_X45 fu v5 (f_X5_soundsMany_L8 fu eh_m2 (f_X5_soundsMany_X51 fu ho_m1 eh_m2) n8)) n16 v7 v8 = some (rr, q_ho, q_eh) → va_P D vwCl [(wMo y a rc is_ pd pn ho_m1 eh_m2 mv at_ tk fs lt ea), (wAr y (a 6) 205 stf), (wAr y (a 7) 205 kpf), (wAr y (a 8) 1230 hsf), (wAr y (a 9) 410 slf)].flatten H → va_D A [(wMo y a rc is_ pd pn ho_m1 eh_m2 mv at_ tk fs lt ea), (wAr y (a 6) 205 stf), (wAr y (a 7) 205 kpf), (wAr y (a 8) 1230 hsf), (wAr y (a 9) 410 slf)].flatten → va_S A s.heap H locs → lv_has ls 4 [(0, .ref (a 0)), (1, .int (jI v7)), (2, .int (jI v5)), (3, .int (jI v8))] → W p l e R s m args below meth c H locs 0 0 Q (F0 m 16 ls []) := by
            intro n16
            induction n16 with
            | zero => intro _ _ H locs ls h_; have h_ : (none : Option (Int × (Int → Int) × (Int → Int))) = some (rr, q_ho, q_eh) := h_; cases h_
            | succ n16 ih16 =>
              intro v7 v8 H locs ls h_ hP_ hD_ hS_ hl_
              replace h_ : f_X5_soundsMany_L16_b fu eh_m2 v5 (f_X5_soundsMany_X45 fu v5 (f_X5_soundsMany_L8 fu eh_m2 (f_X5_soundsMany_X51 fu ho_m1 eh_m2) n8)) (f_X5_soundsMany_L16 fu eh_m2 v5 (f_X5_soundsMany_X45 fu v5 (f_X5_soundsMany_L8 fu eh_m2 (f_X5_soundsMany_X51 fu ho_m1 eh_m2) n8)) n16) v7 v8 = some (rr, q_ho, q_eh) := h_
              unfold f_X5_soundsMany_L16_b at h_
              refine lv_iload_n hx_ hb_ dX5_soundsMany_16 rfl (lv_at hl_ 3 rfl) ?_
              refine lv_bipush (v := jI 100) hx_ hb_ dX5_soundsMany_17 (by decide +kernel) ?_
              refine jx_icmp_ge (tgt := 45) hx_ hb_ h_ dX5_soundsMany_19 (by decide) (fun h_ => ?_) (fun h_ => ?_)
              · exact hX45 _ _ _ ls h_ hP_ hD_ hS_ (lv_sub hl_ [0, 1, 2] rfl)
              · refine lv_iload_n hx_ hb_ dX5_soundsMany_22 rfl (lv_at hl_ 1 rfl) ?_
                refine lv_aload_n hx_ hb_ dX5_soundsMany_23 rfl (lv_at hl_ 0 rfl) ?_
                refine lv_iload_n hx_ hb_ dX5_soundsMany_24 rfl (lv_at hl_ 2 rfl) ?_
                refine lv_iload_n hx_ hb_ dX5_soundsMany_25 rfl (lv_at hl_ 3 rfl) ?_
                obtain ⟨v9, hv9, h_⟩ := jb_i h_
                refine jx_cvi (wr := []) (cw := [(wMo y a rc is_ pd pn ho_m1 eh_m2 mv at_ tk fs lt ea), (wAr y (a 6) 205 stf), (wAr y (a 7) 205 kpf), (wAr y (a 8) 1230 hsf), (wAr y (a 9) 410 slf)]) (cw1 := [(wMo y a rc is_ pd pn ho_m1 eh_m2 mv at_ tk fs lt ea), (wAr y (a 6) 205 stf), (wAr y (a 7) 205 kpf), (wAr y (a 8) 1230 hsf), (wAr y (a 9) 410 slf)]) (cs1 := [(wMo y a rc is_ pd pn ho_m1 eh_m2 mv at_ tk fs lt ea), (wAr y (a 6) 205 stf), (wAr y (a 7) 205 kpf), (wAr y (a 8) 1230 hsf), (wAr y (a 9) 410 slf)]) (As := [.int (jI v5), .int (jI v8)]) (rest := [.int (jI v7)]) ⟨hx_, hb_, hml_, hown_, hts_⟩ hM_ hP_ hD_ hS_ hA_ (List.Perm.refl _) (List.Perm.refl _) (c_X5_begins l D y z a rc is_ pd pn ho_m1 eh_m2 mv at_ tk fs lt ea stf kpf hsf slf v5 v8 fu v9 hv9) 2 gX5_soundsMany_X5_begins rfl ⟨rfl, rfl⟩ (by decide +kernel) ⟨by rw [hR_]; exact Nat.le_of_ble_eq_true rfl, by rw [hR_]; exact Nat.le_of_ble_eq_true rfl⟩ 0 5 rfl rfl rfl rfl rfl hl_.1 (Nat.le_of_ble_eq_true rfl) dX5_soundsMany_26 ⟨Nat.zero_le _, Nat.zero_le _⟩ (fun H locs hP_ hD_ hS_ => ?_)
                refine jx_if_eq (tgt := 36) hx_ hb_ h_ dX5_soundsMany_29 (by decide) (fun h_ => ?_) (fun h_ => ?_)
                · refine lv_iconst (v := jI 0) hx_ hb_ dX5_soundsMany_36 (by decide +kernel) ?_
                  refine jx_iadd hx_ hb_ dX5_soundsMany_37 ?_
                  refine lv_istore_n (lv' := [(1, .int (jI (v7 + 0))), (0, .ref (a 0)), (2, .int (jI v5)), (3, .int (jI v8))]) hx_ hb_ dX5_soundsMany_38 rfl hl_ (by decide) rfl (fun ls hl_ => ?_)
                  refine lv_iinc (v := jI (v8 + 1)) (lv' := [(3, .int (jI (v8 + 1))), (1, .int (jI (v7 + 0))), (0, .ref (a 0)), (2, .int (jI v5))]) hx_ hb_ dX5_soundsMany_39 hl_ (k := 3) rfl (jI_add _ _) (by decide) rfl (fun ls hl_ => ?_)
                  refine lv_goto (tgt := 16) hx_ hb_ dX5_soundsMany_42 (by decide) ?_
                  exact ih16 _ _ _ _ ls h_ hP_ hD_ hS_ (lv_sub hl_ [2, 1, 3, 0] rfl)
                · refine lv_iconst (v := jI 1) hx_ hb_ dX5_soundsMany_32 (by decide +kernel) ?_
                  refine lv_goto (tgt := 37) hx_ hb_ dX5_soundsMany_33 (by decide) ?_
                  refine jx_iadd hx_ hb_ dX5_soundsMany_37 ?_
                  refine lv_istore_n (lv' := [(1, .int (jI (v7 + 1))), (0, .ref (a 0)), (2, .int (jI v5)), (3, .int (jI v8))]) hx_ hb_ dX5_soundsMany_38 rfl hl_ (by decide) rfl (fun ls hl_ => ?_)
                  refine lv_iinc (v := jI (v8 + 1)) (lv' := [(3, .int (jI (v8 + 1))), (1, .int (jI (v7 + 1))), (0, .ref (a 0)), (2, .int (jI v5))]) hx_ hb_ dX5_soundsMany_39 hl_ (k := 3) rfl (jI_add _ _) (by decide) rfl (fun ls hl_ => ?_)
                  refine lv_goto (tgt := 16) hx_ hb_ dX5_soundsMany_42 (by decide) ?_
                  exact ih16 _ _ _ _ ls h_ hP_ hD_ hS_ (lv_sub hl_ [2, 1, 3, 0] rfl)
          exact hL16 fu _ _ _ _ ls h_ hP_ hD_ hS_ (lv_sub hl_ [1, 2, 3, 0] rfl)
    exact hL8 fu _ _ _ _ ls h_ hP_ hD_ hS_ (lv_sub hl_ [2, 1, 0] rfl)
  exact key_ _ (fun v9 ho9 eh9 H locs pc ls h9_ hdg_ hP_ hD_ hS_ => by cases h9_; exact jend_i hx_ hb_ hr_ hlocks_ hP_ hD_ hS_ hdg_)
