def rm_X5_at : Room := { frames := 4, cells := 0, slots := 0, locals := 90 }
set_option maxRecDepth 100000 in
set_option maxHeartbeats 8000000 in
theorem c_X5_at (l : Launch) (D : va_G) (y : Nat → ClassId) (z : Nat → Nat) (a : Nat → Nat) (rc : Int) (is_ : Int → Int) (pd : Int → Int) (pn : Int) (ho : Int → Int) (eh : Int → Int) (mv : Int → Int) (at_ : Int) (tk : Int) (fs : Int) (lt : Int) (ea : Int) (stf : Int → Int) (kpf : Int → Int) (hsf : Int → Int) (slf : Int → Int) (x1 : Int) (x2 : Int) (fu : Nat) (rr : Int) (q_ho : Int → Int) (q_eh : Int → Int) (h_ : f_X5_at fu ho eh stf x1 x2 = some (rr, q_ho, q_eh)) : jCI l D y z yX5_at wsX5_at rm_X5_at [.ref (a 0), .int (jI x1), .int (jI x2)] [(wMo y a rc is_ pd pn ho eh mv at_ tk fs lt ea), (wAr y (a 6) 205 stf), (wAr y (a 7) 205 kpf), (wAr y (a 8) 1230 hsf), (wAr y (a 9) 410 slf)] [(wMo y a rc is_ pd pn q_ho q_eh mv at_ tk fs lt ea), (wAr y (a 6) 205 stf), (wAr y (a 7) 205 kpf), (wAr y (a 8) 1230 hsf), (wAr y (a 9) 410 slf)] rr := by
  intro sz
  refine jmet (Qc := (fun A => va_Qi (fun v (_ : Unit) => v = jI rr) (jB D A [(wMo y a rc is_ pd pn q_ho q_eh mv at_ tk fs lt ea), (wAr y (a 6) 205 stf), (wAr y (a 7) 205 kpf), (wAr y (a 8) 1230 hsf), (wAr y (a 9) 410 slf)]) A)) (cc := cX5_at) (maxL := 3) (ret := (some .int)) (own := RX5) (by decide) rfl (Nat.le_of_ble_eq_true rfl) rfl (fun p e s m R args below meth c A ls hR_ hargs_ hx_ hb_ hr_ hlocks_ hml_ hown_ hts_ hname_ hsz_ hP_ hD_ hA_ hM_ hl_ => ?_)
  have key_ : ∀ Q : State → Prop, (∀ (v9 : Int) (ho9 : Int → Int) (eh9 : Int → Int) (H : Heap) (locs : List Loc) (pc : Nat) (ls : Array Slot), some (v9, ho9, eh9) = some (rr, q_ho, q_eh) → decode cX5_at pc = .ok (.ireturn, 1) → va_P D vwCl [(wMo y a rc is_ pd pn ho9 eh9 mv at_ tk fs lt ea), (wAr y (a 6) 205 stf), (wAr y (a 7) 205 kpf), (wAr y (a 8) 1230 hsf), (wAr y (a 9) 410 slf)].flatten H → va_D A [(wMo y a rc is_ pd pn ho9 eh9 mv at_ tk fs lt ea), (wAr y (a 6) 205 stf), (wAr y (a 7) 205 kpf), (wAr y (a 8) 1230 hsf), (wAr y (a 9) 410 slf)].flatten → va_S A s.heap H locs → W p l e R s m args below meth c H locs 0 0 Q (F0 m pc ls [.int (jI v9)])) → W p l e R s m args below meth c s.heap [] 0 0 Q (F0 m 0 ls []) := by
    intro Q hE_
    have hS_ : va_S A s.heap s.heap [] := va_S.rf
    have hl_ : lv_has ls 3 [(0, .ref (a 0)), (1, .int (jI x1)), (2, .int (jI x2))] := hl_
    have hin_ : ∀ w ∈ u_ws RX5 TX5 16, w ∈ wsX5_at := by decide +kernel
    unfold f_X5_at at h_
    refine lv_iload_n hx_ hb_ dX5_at_0 rfl (lv_at hl_ 1 rfl) ?_
    obtain ⟨v1, hv1, h_⟩ := jb_i h_
    refine jx_csi (b := 0) (C := "") (wr := [(wMo y a rc is_ pd pn ho eh mv at_ tk fs lt ea), (wAr y (a 6) 205 stf), (wAr y (a 7) 205 kpf), (wAr y (a 8) 1230 hsf), (wAr y (a 9) 410 slf)]) (cw := []) (cw1 := []) (cs1 := [(wMo y a rc is_ pd pn ho eh mv at_ tk fs lt ea), (wAr y (a 6) 205 stf), (wAr y (a 7) 205 kpf), (wAr y (a 8) 1230 hsf), (wAr y (a 9) 410 slf)]) (As := [.int (jI x1)]) (rest := []) ⟨hx_, hb_, hml_, hown_, hts_⟩ hM_ hP_ hD_ hS_ hA_ (List.Perm.of_eq (List.append_nil _).symm) (List.Perm.of_eq (List.append_nil _)) (c_X5_isStep l D y z x1 fu v1 hv1) 1 (va_cwS 1 hts_ gX5_at_X5_isStep rfl rfl rfl (by decide +kernel) ⟨by rw [hR_]; exact Nat.le_of_ble_eq_true rfl, by rw [hR_]; exact Nat.le_of_ble_eq_true rfl⟩) rfl ⟨rfl, rfl⟩ ⟨by rw [hR_]; exact Nat.le_of_ble_eq_true rfl, by rw [hR_]; exact Nat.le_of_ble_eq_true rfl⟩ rfl rfl hl_.1 (Nat.le_of_ble_eq_true rfl) dX5_at_1 ⟨Nat.zero_le _, Nat.zero_le _⟩ (fun H locs hP_ hD_ hS_ => ?_)
    refine jx_if_ne (tgt := 10) hx_ hb_ h_ dX5_at_4 (by decide) (fun h_ => ?_) (fun h_ => ?_)
    · refine lv_aload_n hx_ hb_ dX5_at_10 rfl (lv_at hl_ 0 rfl) ?_
      obtain ⟨ho_m2, eh_m3, hho_m2, h_⟩ := jb2_i h_
      refine jx_cvv (rv := 0) (wr := []) (cw := [(wMo y a rc is_ pd pn ho eh mv at_ tk fs lt ea), (wAr y (a 6) 205 stf), (wAr y (a 7) 205 kpf), (wAr y (a 8) 1230 hsf), (wAr y (a 9) 410 slf)]) (cw1 := [(wMo y a rc is_ pd pn ho_m2 eh_m3 mv at_ tk fs lt ea), (wAr y (a 6) 205 stf), (wAr y (a 7) 205 kpf), (wAr y (a 8) 1230 hsf), (wAr y (a 9) 410 slf)]) (cs1 := [(wMo y a rc is_ pd pn ho_m2 eh_m3 mv at_ tk fs lt ea), (wAr y (a 6) 205 stf), (wAr y (a 7) 205 kpf), (wAr y (a 8) 1230 hsf), (wAr y (a 9) 410 slf)]) (As := []) (rest := []) ⟨hx_, hb_, hml_, hown_, hts_⟩ hM_ hP_ hD_ hS_ hA_ (List.Perm.refl _) (List.Perm.refl _) (c_X5_findHeard l D y z a rc is_ pd pn ho eh mv at_ tk fs lt ea stf kpf hsf slf fu ho_m2 eh_m3 hho_m2) 0 gX5_at_X5_findHeard rfl ⟨rfl, rfl⟩ (by decide +kernel) ⟨by rw [hR_]; exact Nat.le_of_ble_eq_true rfl, by rw [hR_]; exact Nat.le_of_ble_eq_true rfl⟩ 0 5 rfl rfl rfl rfl rfl hl_.1 (Nat.le_of_ble_eq_true rfl) dX5_at_11 ⟨Nat.zero_le _, Nat.zero_le _⟩ (fun H locs hP_ hD_ hS_ => ?_)
      refine lv_iload_n hx_ hb_ dX5_at_14 rfl (lv_at hl_ 2 rfl) ?_
      obtain ⟨hsw_, -, h_⟩ := jck_i h_
      by_cases csw : x2 = 0
      · rw [if_pos csw] at h_
        refine jx_tabI (tgt := 48) hx_ hb_ hsw_ dX5_at_15 0 csw (by decide) (by decide) (by rfl) (by decide) ?_
        refine lv_aload_n hx_ hb_ dX5_at_48 rfl (lv_at hl_ 0 rfl) ?_
        refine va_get (D := D) (ci := 5) (v := .ref (a 3)) (C := RX5) (T := TX5) (N := 16) hx_ hb_ hts_ hin_ hown_ hM_.1 hP_ 0 rfl rfl 8 (by decide) (hts_ (.fieldLink RX5 28 "MusicHolesModel" "holes" "[I") (by decide +kernel)) (fun _ h9_ => h9_) rfl dX5_at_49 ?_
        refine lv_iload_n hx_ hb_ dX5_at_52 rfl (lv_at hl_ 1 rfl) ?_
        refine jx_iald hx_ hb_ hM_ hP_ 3 0 rfl rfl rfl (Nat.le_of_ble_eq_true rfl) h_ dX5_at_53 (fun h_ => ?_)
        exact hE_ _ _ _ _ _ _ _ h_ dX5_at_54 hP_ hD_ hS_
      rw [if_neg csw] at h_
      have csw0 := csw; clear csw
      by_cases csw : x2 = 1
      · rw [if_pos csw] at h_
        refine jx_tabI (tgt := 55) hx_ hb_ hsw_ dX5_at_15 1 csw (by decide) (by decide) (by rfl) (by decide) ?_
        refine lv_aload_n hx_ hb_ dX5_at_55 rfl (lv_at hl_ 0 rfl) ?_
        refine va_get (D := D) (ci := 5) (v := .ref (a 4)) (C := RX5) (T := TX5) (N := 16) hx_ hb_ hts_ hin_ hown_ hM_.1 hP_ 0 rfl rfl 9 (by decide) (hts_ (.fieldLink RX5 31 "MusicHolesModel" "heard" "[I") (by decide +kernel)) (fun _ h9_ => h9_) rfl dX5_at_56 ?_
        refine lv_iload_n hx_ hb_ dX5_at_59 rfl (lv_at hl_ 1 rfl) ?_
        refine jx_iald hx_ hb_ hM_ hP_ 4 0 rfl rfl rfl (Nat.le_of_ble_eq_true rfl) h_ dX5_at_60 (fun h_ => ?_)
        exact hE_ _ _ _ _ _ _ _ h_ dX5_at_61 hP_ hD_ hS_
      rw [if_neg csw] at h_
      have csw1 := csw; clear csw
      by_cases csw : x2 = 2
      · rw [if_pos csw] at h_
        refine jx_tabI (tgt := 62) hx_ hb_ hsw_ dX5_at_15 2 csw (by decide) (by decide) (by rfl) (by decide) ?_
        refine lv_aload_n hx_ hb_ dX5_at_62 rfl (lv_at hl_ 0 rfl) ?_
        refine lv_iload_n hx_ hb_ dX5_at_63 rfl (lv_at hl_ 1 rfl) ?_
        obtain ⟨v4, hv4, h_⟩ := jb_i h_
        refine jx_cvi (wr := []) (cw := [(wMo y a rc is_ pd pn ho_m2 eh_m3 mv at_ tk fs lt ea), (wAr y (a 6) 205 stf), (wAr y (a 7) 205 kpf), (wAr y (a 8) 1230 hsf), (wAr y (a 9) 410 slf)]) (cw1 := [(wMo y a rc is_ pd pn ho_m2 eh_m3 mv at_ tk fs lt ea), (wAr y (a 6) 205 stf), (wAr y (a 7) 205 kpf), (wAr y (a 8) 1230 hsf), (wAr y (a 9) 410 slf)]) (cs1 := [(wMo y a rc is_ pd pn ho_m2 eh_m3 mv at_ tk fs lt ea), (wAr y (a 6) 205 stf), (wAr y (a 7) 205 kpf), (wAr y (a 8) 1230 hsf), (wAr y (a 9) 410 slf)]) (As := [.int (jI x1)]) (rest := []) ⟨hx_, hb_, hml_, hown_, hts_⟩ hM_ hP_ hD_ hS_ hA_ (List.Perm.refl _) (List.Perm.refl _) (c_X5_tracksAt l D y z a rc is_ pd pn ho_m2 eh_m3 mv at_ tk fs lt ea stf kpf hsf slf x1 fu v4 hv4) 1 gX5_at_X5_tracksAt rfl ⟨rfl, rfl⟩ (by decide +kernel) ⟨by rw [hR_]; exact Nat.le_of_ble_eq_true rfl, by rw [hR_]; exact Nat.le_of_ble_eq_true rfl⟩ 0 5 rfl rfl rfl rfl rfl hl_.1 (Nat.le_of_ble_eq_true rfl) dX5_at_64 ⟨Nat.zero_le _, Nat.zero_le _⟩ (fun H locs hP_ hD_ hS_ => ?_)
        exact hE_ _ _ _ _ _ _ _ h_ dX5_at_67 hP_ hD_ hS_
      rw [if_neg csw] at h_
      have csw2 := csw; clear csw
      by_cases csw : x2 = 3
      · rw [if_pos csw] at h_
        refine jx_tabI (tgt := 68) hx_ hb_ hsw_ dX5_at_15 3 csw (by decide) (by decide) (by rfl) (by decide) ?_
        refine lv_aload_n hx_ hb_ dX5_at_68 rfl (lv_at hl_ 0 rfl) ?_
        refine va_get (D := D) (ci := 5) (v := .ref (a 3)) (C := RX5) (T := TX5) (N := 16) hx_ hb_ hts_ hin_ hown_ hM_.1 hP_ 0 rfl rfl 8 (by decide) (hts_ (.fieldLink RX5 28 "MusicHolesModel" "holes" "[I") (by decide +kernel)) (fun _ h9_ => h9_) rfl dX5_at_69 ?_
        refine lv_iload_n hx_ hb_ dX5_at_72 rfl (lv_at hl_ 1 rfl) ?_
        refine jx_iald hx_ hb_ hM_ hP_ 3 0 rfl rfl rfl (Nat.le_of_ble_eq_true rfl) h_ dX5_at_73 (fun h_ => ?_)
        obtain ⟨v5, hv5, h_⟩ := jb_i h_
        refine jx_csi (b := 0) (C := "") (wr := [(wMo y a rc is_ pd pn ho_m2 eh_m3 mv at_ tk fs lt ea), (wAr y (a 6) 205 stf), (wAr y (a 7) 205 kpf), (wAr y (a 8) 1230 hsf), (wAr y (a 9) 410 slf)]) (cw := []) (cw1 := []) (cs1 := [(wMo y a rc is_ pd pn ho_m2 eh_m3 mv at_ tk fs lt ea), (wAr y (a 6) 205 stf), (wAr y (a 7) 205 kpf), (wAr y (a 8) 1230 hsf), (wAr y (a 9) 410 slf)]) (As := [.int (jI (ho_m2 x1))]) (rest := []) ⟨hx_, hb_, hml_, hown_, hts_⟩ hM_ hP_ hD_ hS_ hA_ (List.Perm.of_eq (List.append_nil _).symm) (List.Perm.of_eq (List.append_nil _)) (c_X5_sideBySide l D y z (ho_m2 x1) fu v5 hv5) 1 (va_cwS 1 hts_ gX5_at_X5_sideBySide rfl rfl rfl (by decide +kernel) ⟨by rw [hR_]; exact Nat.le_of_ble_eq_true rfl, by rw [hR_]; exact Nat.le_of_ble_eq_true rfl⟩) rfl ⟨rfl, rfl⟩ ⟨by rw [hR_]; exact Nat.le_of_ble_eq_true rfl, by rw [hR_]; exact Nat.le_of_ble_eq_true rfl⟩ rfl rfl hl_.1 (Nat.le_of_ble_eq_true rfl) dX5_at_74 ⟨Nat.zero_le _, Nat.zero_le _⟩ (fun H locs hP_ hD_ hS_ => ?_)
        exact hE_ _ _ _ _ _ _ _ h_ dX5_at_77 hP_ hD_ hS_
      rw [if_neg csw] at h_
      have csw3 := csw; clear csw
      by_cases csw : x2 = 4
      · rw [if_pos csw] at h_
        refine jx_tabI (tgt := 78) hx_ hb_ hsw_ dX5_at_15 4 csw (by decide) (by decide) (by rfl) (by decide) ?_
        refine lv_aload_n hx_ hb_ dX5_at_78 rfl (lv_at hl_ 0 rfl) ?_
        refine lv_iload_n hx_ hb_ dX5_at_79 rfl (lv_at hl_ 1 rfl) ?_
        obtain ⟨v6, hv6, h_⟩ := jb_i h_
        refine jx_cvi (wr := []) (cw := [(wMo y a rc is_ pd pn ho_m2 eh_m3 mv at_ tk fs lt ea), (wAr y (a 6) 205 stf), (wAr y (a 7) 205 kpf), (wAr y (a 8) 1230 hsf), (wAr y (a 9) 410 slf)]) (cw1 := [(wMo y a rc is_ pd pn ho_m2 eh_m3 mv at_ tk fs lt ea), (wAr y (a 6) 205 stf), (wAr y (a 7) 205 kpf), (wAr y (a 8) 1230 hsf), (wAr y (a 9) 410 slf)]) (cs1 := [(wMo y a rc is_ pd pn ho_m2 eh_m3 mv at_ tk fs lt ea), (wAr y (a 6) 205 stf), (wAr y (a 7) 205 kpf), (wAr y (a 8) 1230 hsf), (wAr y (a 9) 410 slf)]) (As := [.int (jI x1)]) (rest := []) ⟨hx_, hb_, hml_, hown_, hts_⟩ hM_ hP_ hD_ hS_ hA_ (List.Perm.refl _) (List.Perm.refl _) (c_X5_isWeak l D y z a rc is_ pd pn ho_m2 eh_m3 mv at_ tk fs lt ea stf kpf hsf slf x1 fu v6 hv6) 1 gX5_at_X5_isWeak rfl ⟨rfl, rfl⟩ (by decide +kernel) ⟨by rw [hR_]; exact Nat.le_of_ble_eq_true rfl, by rw [hR_]; exact Nat.le_of_ble_eq_true rfl⟩ 0 5 rfl rfl rfl rfl rfl hl_.1 (Nat.le_of_ble_eq_true rfl) dX5_at_80 ⟨Nat.zero_le _, Nat.zero_le _⟩ (fun H locs hP_ hD_ hS_ => ?_)
        refine jx_if_eq (tgt := 90) hx_ hb_ h_ dX5_at_83 (by decide) (fun h_ => ?_) (fun h_ => ?_)
        · refine lv_iconst (v := jI 0) hx_ hb_ dX5_at_90 (by decide +kernel) ?_
          exact hE_ _ _ _ _ _ _ _ h_ dX5_at_91 hP_ hD_ hS_
        · refine lv_iconst (v := jI 1) hx_ hb_ dX5_at_86 (by decide +kernel) ?_
          refine lv_goto (tgt := 91) hx_ hb_ dX5_at_87 (by decide) ?_
          exact hE_ _ _ _ _ _ _ _ h_ dX5_at_91 hP_ hD_ hS_
      rw [if_neg csw] at h_
      have csw4 := csw; clear csw
      refine jx_tabO (tgt := 92) hx_ hb_ hsw_ dX5_at_15 (by omega) (by decide) ?_
      refine lv_bipush (v := jI (-2)) hx_ hb_ dX5_at_92 (by decide +kernel) ?_
      exact hE_ _ _ _ _ _ _ _ h_ dX5_at_94 hP_ hD_ hS_
    · refine lv_bipush (v := jI (-2)) hx_ hb_ dX5_at_7 (by decide +kernel) ?_
      exact hE_ _ _ _ _ _ _ _ h_ dX5_at_9 hP_ hD_ hS_
  exact key_ _ (fun v9 ho9 eh9 H locs pc ls h9_ hdg_ hP_ hD_ hS_ => by cases h9_; exact jend_i hx_ hb_ hr_ hlocks_ hP_ hD_ hS_ hdg_)
def rm_X5_notesIn : Room := { frames := 1, cells := 0, slots := 0, locals := 22 }
set_option maxRecDepth 100000 in
set_option maxHeartbeats 8000000 in
theorem c_X5_notesIn (l : Launch) (D : va_G) (y : Nat → ClassId) (z : Nat → Nat) (a : Nat → Nat) (rc : Int) (is_ : Int → Int) (pd : Int → Int) (pn : Int) (ho : Int → Int) (eh : Int → Int) (mv : Int → Int) (at_ : Int) (tk : Int) (fs : Int) (lt : Int) (ea : Int) (stf : Int → Int) (kpf : Int → Int) (hsf : Int → Int) (slf : Int → Int) (x1 : Int) (x2 : Int) (x3 : Int) (fu : Nat) (rr : Int) (h_ : f_X5_notesIn fu stf x1 x2 x3 = some rr) : jCI l D y z yX5_notesIn wsX5_notesIn rm_X5_notesIn [.ref (a 0), .int (jI x1), .int (jI x2), .int (jI x3)] [(wMo y a rc is_ pd pn ho eh mv at_ tk fs lt ea), (wAr y (a 6) 205 stf), (wAr y (a 7) 205 kpf), (wAr y (a 8) 1230 hsf), (wAr y (a 9) 410 slf)] [(wMo y a rc is_ pd pn ho eh mv at_ tk fs lt ea), (wAr y (a 6) 205 stf), (wAr y (a 7) 205 kpf), (wAr y (a 8) 1230 hsf), (wAr y (a 9) 410 slf)] rr := by
  intro sz
  refine jmet (Qc := (fun A => va_Qi (fun v (_ : Unit) => v = jI rr) (jB D A [(wMo y a rc is_ pd pn ho eh mv at_ tk fs lt ea), (wAr y (a 6) 205 stf), (wAr y (a 7) 205 kpf), (wAr y (a 8) 1230 hsf), (wAr y (a 9) 410 slf)]) A)) (cc := cX5_notesIn) (maxL := 6) (ret := (some .int)) (own := RX5) (by decide) rfl (Nat.le_of_ble_eq_true rfl) rfl (fun p e s m R args below meth c A ls hR_ hargs_ hx_ hb_ hr_ hlocks_ hml_ hown_ hts_ hname_ hsz_ hP_ hD_ hA_ hM_ hl_ => ?_)
  have key_ : ∀ Q : State → Prop, (∀ (v9 : Int) (H : Heap) (locs : List Loc) (pc : Nat) (ls : Array Slot), some v9 = some rr → decode cX5_notesIn pc = .ok (.ireturn, 1) → va_P D vwCl [(wMo y a rc is_ pd pn ho eh mv at_ tk fs lt ea), (wAr y (a 6) 205 stf), (wAr y (a 7) 205 kpf), (wAr y (a 8) 1230 hsf), (wAr y (a 9) 410 slf)].flatten H → va_D A [(wMo y a rc is_ pd pn ho eh mv at_ tk fs lt ea), (wAr y (a 6) 205 stf), (wAr y (a 7) 205 kpf), (wAr y (a 8) 1230 hsf), (wAr y (a 9) 410 slf)].flatten → va_S A s.heap H locs → W p l e R s m args below meth c H locs 0 0 Q (F0 m pc ls [.int (jI v9)])) → W p l e R s m args below meth c s.heap [] 0 0 Q (F0 m 0 ls []) := by
    intro Q hE_
    have hS_ : va_S A s.heap s.heap [] := va_S.rf
    have hl_ : lv_has ls 6 [(0, .ref (a 0)), (1, .int (jI x1)), (2, .int (jI x2)), (3, .int (jI x3))] := hl_
    have hin_ : ∀ w ∈ u_ws RX5 TX5 16, w ∈ wsX5_notesIn := by decide +kernel
    unfold f_X5_notesIn at h_
    refine lv_iconst (v := jI 0) hx_ hb_ dX5_notesIn_0 (by decide +kernel) ?_
    refine lv_istore (lv' := [(4, .int (jI 0)), (0, .ref (a 0)), (1, .int (jI x1)), (2, .int (jI x2)), (3, .int (jI x3))]) hx_ hb_ dX5_notesIn_1 hl_ (by decide) rfl (fun ls hl_ => ?_)
    refine lv_iconst (v := jI 0) hx_ hb_ dX5_notesIn_3 (by decide +kernel) ?_
    refine lv_istore (lv' := [(5, .int (jI 0)), (4, .int (jI 0)), (0, .ref (a 0)), (1, .int (jI x1)), (2, .int (jI x2)), (3, .int (jI x3))]) hx_ hb_ dX5_notesIn_4 hl_ (by decide) rfl (fun ls hl_ => ?_)
    have hX66 : ∀ (v1 : Int) (H : Heap) (locs : List Loc) (ls : Array Slot), f_X5_notesIn_X66 fu v1 = some rr → va_P D vwCl [(wMo y a rc is_ pd pn ho eh mv at_ tk fs lt ea), (wAr y (a 6) 205 stf), (wAr y (a 7) 205 kpf), (wAr y (a 8) 1230 hsf), (wAr y (a 9) 410 slf)].flatten H → va_D A [(wMo y a rc is_ pd pn ho eh mv at_ tk fs lt ea), (wAr y (a 6) 205 stf), (wAr y (a 7) 205 kpf), (wAr y (a 8) 1230 hsf), (wAr y (a 9) 410 slf)].flatten → va_S A s.heap H locs → lv_has ls 6 [(4, .int (jI v1))] → W p l e R s m args below meth c H locs 0 0 Q (F0 m 66 ls []) := by
      intro v1 H locs ls h_ hP_ hD_ hS_ hl_
      unfold f_X5_notesIn_X66 at h_
      refine lv_iload hx_ hb_ dX5_notesIn_66 (lv_at hl_ 0 rfl) ?_
      exact hE_ _ _ _ _ _ h_ dX5_notesIn_68 hP_ hD_ hS_
    have hL6 : ∀ n6 : Nat, ∀ (v2 : Int) (v3 : Int) (H : Heap) (locs : List Loc) (ls : Array Slot), f_X5_notesIn_L6 fu stf x1 x2 x3 (f_X5_notesIn_X66 fu) n6 v2 v3 = some rr → va_P D vwCl [(wMo y a rc is_ pd pn ho eh mv at_ tk fs lt ea), (wAr y (a 6) 205 stf), (wAr y (a 7) 205 kpf), (wAr y (a 8) 1230 hsf), (wAr y (a 9) 410 slf)].flatten H → va_D A [(wMo y a rc is_ pd pn ho eh mv at_ tk fs lt ea), (wAr y (a 6) 205 stf), (wAr y (a 7) 205 kpf), (wAr y (a 8) 1230 hsf), (wAr y (a 9) 410 slf)].flatten → va_S A s.heap H locs → lv_has ls 6 [(0, .ref (a 0)), (1, .int (jI x1)), (2, .int (jI x2)), (3, .int (jI x3)), (4, .int (jI v2)), (5, .int (jI v3))] → W p l e R s m args below meth c H locs 0 0 Q (F0 m 6 ls []) := by
      intro n6
      induction n6 with
      | zero => intro _ _ H locs ls h_; have h_ : (none : Option (Int)) = some rr := h_; cases h_
      | succ n6 ih6 =>
        intro v2 v3 H locs ls h_ hP_ hD_ hS_ hl_
        replace h_ : f_X5_notesIn_L6_b fu stf x1 x2 x3 (f_X5_notesIn_X66 fu) (f_X5_notesIn_L6 fu stf x1 x2 x3 (f_X5_notesIn_X66 fu) n6) v2 v3 = some rr := h_
        unfold f_X5_notesIn_L6_b at h_
        refine lv_iload hx_ hb_ dX5_notesIn_6 (lv_at hl_ 5 rfl) ?_
        refine lv_aload_n hx_ hb_ dX5_notesIn_8 rfl (lv_at hl_ 0 rfl) ?_
        refine va_get (D := D) (ci := 5) (v := .ref (a 6)) (C := RX5) (T := TX5) (N := 16) hx_ hb_ hts_ hin_ hown_ hM_.1 hP_ 0 rfl rfl 0 (by decide) (hts_ (.fieldLink RX5 7 "MusicHolesModel" "state" "[I") (by decide +kernel)) (fun _ h9_ => h9_) rfl dX5_notesIn_9 ?_
        refine lv_iconst (v := jI 4) hx_ hb_ dX5_notesIn_12 (by decide +kernel) ?_
        refine jx_iald hx_ hb_ hM_ hP_ 6 0 rfl rfl rfl (Nat.le_of_ble_eq_true rfl) h_ dX5_notesIn_13 (fun h_ => ?_)
        refine jx_icmp_ge (tgt := 66) hx_ hb_ h_ dX5_notesIn_14 (by decide) (fun h_ => ?_) (fun h_ => ?_)
        · exact hX66 _ _ _ ls h_ hP_ hD_ hS_ (lv_sub hl_ [4] rfl)
        · refine lv_iload hx_ hb_ dX5_notesIn_17 (lv_at hl_ 4 rfl) ?_
          refine lv_aload_n hx_ hb_ dX5_notesIn_19 rfl (lv_at hl_ 0 rfl) ?_
          refine lv_iload hx_ hb_ dX5_notesIn_20 (lv_at hl_ 5 rfl) ?_
          refine lv_iconst (v := jI 0) hx_ hb_ dX5_notesIn_22 (by decide +kernel) ?_
          obtain ⟨v4, hv4, h_⟩ := jb_i h_
          refine jx_cvi (wr := []) (cw := [(wMo y a rc is_ pd pn ho eh mv at_ tk fs lt ea), (wAr y (a 6) 205 stf), (wAr y (a 7) 205 kpf), (wAr y (a 8) 1230 hsf), (wAr y (a 9) 410 slf)]) (cw1 := [(wMo y a rc is_ pd pn ho eh mv at_ tk fs lt ea), (wAr y (a 6) 205 stf), (wAr y (a 7) 205 kpf), (wAr y (a 8) 1230 hsf), (wAr y (a 9) 410 slf)]) (cs1 := [(wMo y a rc is_ pd pn ho eh mv at_ tk fs lt ea), (wAr y (a 6) 205 stf), (wAr y (a 7) 205 kpf), (wAr y (a 8) 1230 hsf), (wAr y (a 9) 410 slf)]) (As := [.int (jI v3), .int (jI 0)]) (rest := [.int (jI v2)]) ⟨hx_, hb_, hml_, hown_, hts_⟩ hM_ hP_ hD_ hS_ hA_ (List.Perm.refl _) (List.Perm.refl _) (c_X5_part l D y z a rc is_ pd pn ho eh mv at_ tk fs lt ea stf kpf hsf slf v3 0 fu v4 hv4) 2 gX5_notesIn_X5_part rfl ⟨rfl, rfl⟩ (by decide +kernel) ⟨by rw [hR_]; exact Nat.le_of_ble_eq_true rfl, by rw [hR_]; exact Nat.le_of_ble_eq_true rfl⟩ 0 5 rfl rfl rfl rfl rfl hl_.1 (Nat.le_of_ble_eq_true rfl) dX5_notesIn_23 ⟨Nat.zero_le _, Nat.zero_le _⟩ (fun H locs hP_ hD_ hS_ => ?_)
          refine lv_iload_n hx_ hb_ dX5_notesIn_26 rfl (lv_at hl_ 1 rfl) ?_
          refine jx_icmp_ne (tgt := 56) hx_ hb_ h_ dX5_notesIn_27 (by decide) (fun h_ => ?_) (fun h_ => ?_)
          · refine lv_iconst (v := jI 0) hx_ hb_ dX5_notesIn_56 (by decide +kernel) ?_
            refine jx_iadd hx_ hb_ dX5_notesIn_57 ?_
            refine lv_istore (lv' := [(4, .int (jI (v2 + 0))), (0, .ref (a 0)), (1, .int (jI x1)), (2, .int (jI x2)), (3, .int (jI x3)), (5, .int (jI v3))]) hx_ hb_ dX5_notesIn_58 hl_ (by decide) rfl (fun ls hl_ => ?_)
            refine lv_iinc (v := jI (v3 + 1)) (lv' := [(5, .int (jI (v3 + 1))), (4, .int (jI (v2 + 0))), (0, .ref (a 0)), (1, .int (jI x1)), (2, .int (jI x2)), (3, .int (jI x3))]) hx_ hb_ dX5_notesIn_60 hl_ (k := 5) rfl (jI_add _ _) (by decide) rfl (fun ls hl_ => ?_)
            refine lv_goto (tgt := 6) hx_ hb_ dX5_notesIn_63 (by decide) ?_
            exact ih6 _ _ _ _ ls h_ hP_ hD_ hS_ (lv_sub hl_ [2, 3, 4, 5, 1, 0] rfl)
          · refine lv_aload_n hx_ hb_ dX5_notesIn_30 rfl (lv_at hl_ 0 rfl) ?_
            refine lv_iload hx_ hb_ dX5_notesIn_31 (lv_at hl_ 5 rfl) ?_
            refine lv_iconst (v := jI 1) hx_ hb_ dX5_notesIn_33 (by decide +kernel) ?_
            obtain ⟨v5, hv5, h_⟩ := jb_i h_
            refine jx_cvi (wr := []) (cw := [(wMo y a rc is_ pd pn ho eh mv at_ tk fs lt ea), (wAr y (a 6) 205 stf), (wAr y (a 7) 205 kpf), (wAr y (a 8) 1230 hsf), (wAr y (a 9) 410 slf)]) (cw1 := [(wMo y a rc is_ pd pn ho eh mv at_ tk fs lt ea), (wAr y (a 6) 205 stf), (wAr y (a 7) 205 kpf), (wAr y (a 8) 1230 hsf), (wAr y (a 9) 410 slf)]) (cs1 := [(wMo y a rc is_ pd pn ho eh mv at_ tk fs lt ea), (wAr y (a 6) 205 stf), (wAr y (a 7) 205 kpf), (wAr y (a 8) 1230 hsf), (wAr y (a 9) 410 slf)]) (As := [.int (jI v3), .int (jI 1)]) (rest := [.int (jI v2)]) ⟨hx_, hb_, hml_, hown_, hts_⟩ hM_ hP_ hD_ hS_ hA_ (List.Perm.refl _) (List.Perm.refl _) (c_X5_part l D y z a rc is_ pd pn ho eh mv at_ tk fs lt ea stf kpf hsf slf v3 1 fu v5 hv5) 2 gX5_notesIn_X5_part rfl ⟨rfl, rfl⟩ (by decide +kernel) ⟨by rw [hR_]; exact Nat.le_of_ble_eq_true rfl, by rw [hR_]; exact Nat.le_of_ble_eq_true rfl⟩ 0 5 rfl rfl rfl rfl rfl hl_.1 (Nat.le_of_ble_eq_true rfl) dX5_notesIn_34 ⟨Nat.zero_le _, Nat.zero_le _⟩ (fun H locs hP_ hD_ hS_ => ?_)
            refine lv_iload_n hx_ hb_ dX5_notesIn_37 rfl (lv_at hl_ 3 rfl) ?_
            refine jx_icmp_gt (tgt := 56) hx_ hb_ h_ dX5_notesIn_38 (by decide) (fun h_ => ?_) (fun h_ => ?_)
            · refine lv_iconst (v := jI 0) hx_ hb_ dX5_notesIn_56 (by decide +kernel) ?_
              refine jx_iadd hx_ hb_ dX5_notesIn_57 ?_
              refine lv_istore (lv' := [(4, .int (jI (v2 + 0))), (0, .ref (a 0)), (1, .int (jI x1)), (2, .int (jI x2)), (3, .int (jI x3)), (5, .int (jI v3))]) hx_ hb_ dX5_notesIn_58 hl_ (by decide) rfl (fun ls hl_ => ?_)
              refine lv_iinc (v := jI (v3 + 1)) (lv' := [(5, .int (jI (v3 + 1))), (4, .int (jI (v2 + 0))), (0, .ref (a 0)), (1, .int (jI x1)), (2, .int (jI x2)), (3, .int (jI x3))]) hx_ hb_ dX5_notesIn_60 hl_ (k := 5) rfl (jI_add _ _) (by decide) rfl (fun ls hl_ => ?_)
              refine lv_goto (tgt := 6) hx_ hb_ dX5_notesIn_63 (by decide) ?_
              exact ih6 _ _ _ _ ls h_ hP_ hD_ hS_ (lv_sub hl_ [2, 3, 4, 5, 1, 0] rfl)
            · refine lv_aload_n hx_ hb_ dX5_notesIn_41 rfl (lv_at hl_ 0 rfl) ?_
              refine lv_iload hx_ hb_ dX5_notesIn_42 (lv_at hl_ 5 rfl) ?_
              refine lv_iconst (v := jI 2) hx_ hb_ dX5_notesIn_44 (by decide +kernel) ?_
              obtain ⟨v6, hv6, h_⟩ := jb_i h_
              refine jx_cvi (wr := []) (cw := [(wMo y a rc is_ pd pn ho eh mv at_ tk fs lt ea), (wAr y (a 6) 205 stf), (wAr y (a 7) 205 kpf), (wAr y (a 8) 1230 hsf), (wAr y (a 9) 410 slf)]) (cw1 := [(wMo y a rc is_ pd pn ho eh mv at_ tk fs lt ea), (wAr y (a 6) 205 stf), (wAr y (a 7) 205 kpf), (wAr y (a 8) 1230 hsf), (wAr y (a 9) 410 slf)]) (cs1 := [(wMo y a rc is_ pd pn ho eh mv at_ tk fs lt ea), (wAr y (a 6) 205 stf), (wAr y (a 7) 205 kpf), (wAr y (a 8) 1230 hsf), (wAr y (a 9) 410 slf)]) (As := [.int (jI v3), .int (jI 2)]) (rest := [.int (jI v2)]) ⟨hx_, hb_, hml_, hown_, hts_⟩ hM_ hP_ hD_ hS_ hA_ (List.Perm.refl _) (List.Perm.refl _) (c_X5_part l D y z a rc is_ pd pn ho eh mv at_ tk fs lt ea stf kpf hsf slf v3 2 fu v6 hv6) 2 gX5_notesIn_X5_part rfl ⟨rfl, rfl⟩ (by decide +kernel) ⟨by rw [hR_]; exact Nat.le_of_ble_eq_true rfl, by rw [hR_]; exact Nat.le_of_ble_eq_true rfl⟩ 0 5 rfl rfl rfl rfl rfl hl_.1 (Nat.le_of_ble_eq_true rfl) dX5_notesIn_45 ⟨Nat.zero_le _, Nat.zero_le _⟩ (fun H locs hP_ hD_ hS_ => ?_)
              refine lv_iload_n hx_ hb_ dX5_notesIn_48 rfl (lv_at hl_ 2 rfl) ?_
              refine jx_icmp_lt (tgt := 56) hx_ hb_ h_ dX5_notesIn_49 (by decide) (fun h_ => ?_) (fun h_ => ?_)
              · refine lv_iconst (v := jI 0) hx_ hb_ dX5_notesIn_56 (by decide +kernel) ?_
                refine jx_iadd hx_ hb_ dX5_notesIn_57 ?_
                refine lv_istore (lv' := [(4, .int (jI (v2 + 0))), (0, .ref (a 0)), (1, .int (jI x1)), (2, .int (jI x2)), (3, .int (jI x3)), (5, .int (jI v3))]) hx_ hb_ dX5_notesIn_58 hl_ (by decide) rfl (fun ls hl_ => ?_)
                refine lv_iinc (v := jI (v3 + 1)) (lv' := [(5, .int (jI (v3 + 1))), (4, .int (jI (v2 + 0))), (0, .ref (a 0)), (1, .int (jI x1)), (2, .int (jI x2)), (3, .int (jI x3))]) hx_ hb_ dX5_notesIn_60 hl_ (k := 5) rfl (jI_add _ _) (by decide) rfl (fun ls hl_ => ?_)
                refine lv_goto (tgt := 6) hx_ hb_ dX5_notesIn_63 (by decide) ?_
                exact ih6 _ _ _ _ ls h_ hP_ hD_ hS_ (lv_sub hl_ [2, 3, 4, 5, 1, 0] rfl)
              · refine lv_iconst (v := jI 1) hx_ hb_ dX5_notesIn_52 (by decide +kernel) ?_
                refine lv_goto (tgt := 57) hx_ hb_ dX5_notesIn_53 (by decide) ?_
                refine jx_iadd hx_ hb_ dX5_notesIn_57 ?_
                refine lv_istore (lv' := [(4, .int (jI (v2 + 1))), (0, .ref (a 0)), (1, .int (jI x1)), (2, .int (jI x2)), (3, .int (jI x3)), (5, .int (jI v3))]) hx_ hb_ dX5_notesIn_58 hl_ (by decide) rfl (fun ls hl_ => ?_)
                refine lv_iinc (v := jI (v3 + 1)) (lv' := [(5, .int (jI (v3 + 1))), (4, .int (jI (v2 + 1))), (0, .ref (a 0)), (1, .int (jI x1)), (2, .int (jI x2)), (3, .int (jI x3))]) hx_ hb_ dX5_notesIn_60 hl_ (k := 5) rfl (jI_add _ _) (by decide) rfl (fun ls hl_ => ?_)
                refine lv_goto (tgt := 6) hx_ hb_ dX5_notesIn_63 (by decide) ?_
                exact ih6 _ _ _ _ ls h_ hP_ hD_ hS_ (lv_sub hl_ [2, 3, 4, 5, 1, 0] rfl)
    exact hL6 fu _ _ _ _ ls h_ hP_ hD_ hS_ (lv_sub hl_ [2, 3, 4, 5, 1, 0] rfl)
  exact key_ _ (fun v9 H locs pc ls h9_ hdg_ hP_ hD_ hS_ => by cases h9_; exact jend_i hx_ hb_ hr_ hlocks_ hP_ hD_ hS_ hdg_)
def rm_X5_sound : Room := { frames := 4, cells := 0, slots := 0, locals := 90 }
set_option maxRecDepth 100000 in
set_option maxHeartbeats 8000000 in
theorem c_X5_sound (l : Launch) (D : va_G) (y : Nat → ClassId) (z : Nat → Nat) (a : Nat → Nat) (rc : Int) (is_ : Int → Int) (pd : Int → Int) (pn : Int) (ho : Int → Int) (eh : Int → Int) (mv : Int → Int) (at_ : Int) (tk : Int) (fs : Int) (lt : Int) (ea : Int) (stf : Int → Int) (kpf : Int → Int) (hsf : Int → Int) (slf : Int → Int) (x1 : Int) (x2 : Int) (x3 : Int) (fu : Nat) (rr : Int) (q_ho : Int → Int) (q_eh : Int → Int) (h_ : f_X5_sound fu ho eh stf x1 x2 x3 = some (rr, q_ho, q_eh)) : jCI l D y z yX5_sound wsX5_sound rm_X5_sound [.ref (a 0), .int (jI x1), .int (jI x2), .int (jI x3)] [(wMo y a rc is_ pd pn ho eh mv at_ tk fs lt ea), (wAr y (a 6) 205 stf), (wAr y (a 7) 205 kpf), (wAr y (a 8) 1230 hsf), (wAr y (a 9) 410 slf)] [(wMo y a rc is_ pd pn q_ho q_eh mv at_ tk fs lt ea), (wAr y (a 6) 205 stf), (wAr y (a 7) 205 kpf), (wAr y (a 8) 1230 hsf), (wAr y (a 9) 410 slf)] rr := by
  intro sz
  refine jmet (Qc := (fun A => va_Qi (fun v (_ : Unit) => v = jI rr) (jB D A [(wMo y a rc is_ pd pn q_ho q_eh mv at_ tk fs lt ea), (wAr y (a 6) 205 stf), (wAr y (a 7) 205 kpf), (wAr y (a 8) 1230 hsf), (wAr y (a 9) 410 slf)]) A)) (cc := cX5_sound) (maxL := 6) (ret := (some .int)) (own := RX5) (by decide) rfl (Nat.le_of_ble_eq_true rfl) rfl (fun p e s m R args below meth c A ls hR_ hargs_ hx_ hb_ hr_ hlocks_ hml_ hown_ hts_ hname_ hsz_ hP_ hD_ hA_ hM_ hl_ => ?_)
  have key_ : ∀ Q : State → Prop, (∀ (v9 : Int) (ho9 : Int → Int) (eh9 : Int → Int) (H : Heap) (locs : List Loc) (pc : Nat) (ls : Array Slot), some (v9, ho9, eh9) = some (rr, q_ho, q_eh) → decode cX5_sound pc = .ok (.ireturn, 1) → va_P D vwCl [(wMo y a rc is_ pd pn ho9 eh9 mv at_ tk fs lt ea), (wAr y (a 6) 205 stf), (wAr y (a 7) 205 kpf), (wAr y (a 8) 1230 hsf), (wAr y (a 9) 410 slf)].flatten H → va_D A [(wMo y a rc is_ pd pn ho9 eh9 mv at_ tk fs lt ea), (wAr y (a 6) 205 stf), (wAr y (a 7) 205 kpf), (wAr y (a 8) 1230 hsf), (wAr y (a 9) 410 slf)].flatten → va_S A s.heap H locs → W p l e R s m args below meth c H locs 0 0 Q (F0 m pc ls [.int (jI v9)])) → W p l e R s m args below meth c s.heap [] 0 0 Q (F0 m 0 ls []) := by
    intro Q hE_
    have hS_ : va_S A s.heap s.heap [] := va_S.rf
    have hl_ : lv_has ls 6 [(0, .ref (a 0)), (1, .int (jI x1)), (2, .int (jI x2)), (3, .int (jI x3))] := hl_
    have hin_ : ∀ w ∈ u_ws RX5 TX5 16, w ∈ wsX5_sound := by decide +kernel
    unfold f_X5_sound at h_
    refine lv_iload_n hx_ hb_ dX5_sound_0 rfl (lv_at hl_ 1 rfl) ?_
    obtain ⟨v1, hv1, h_⟩ := jb_i h_
    refine jx_csi (b := 0) (C := "") (wr := [(wMo y a rc is_ pd pn ho eh mv at_ tk fs lt ea), (wAr y (a 6) 205 stf), (wAr y (a 7) 205 kpf), (wAr y (a 8) 1230 hsf), (wAr y (a 9) 410 slf)]) (cw := []) (cw1 := []) (cs1 := [(wMo y a rc is_ pd pn ho eh mv at_ tk fs lt ea), (wAr y (a 6) 205 stf), (wAr y (a 7) 205 kpf), (wAr y (a 8) 1230 hsf), (wAr y (a 9) 410 slf)]) (As := [.int (jI x1)]) (rest := []) ⟨hx_, hb_, hml_, hown_, hts_⟩ hM_ hP_ hD_ hS_ hA_ (List.Perm.of_eq (List.append_nil _).symm) (List.Perm.of_eq (List.append_nil _)) (c_X5_isTrack l D y z x1 fu v1 hv1) 1 (va_cwS 1 hts_ gX5_sound_X5_isTrack rfl rfl rfl (by decide +kernel) ⟨by rw [hR_]; exact Nat.le_of_ble_eq_true rfl, by rw [hR_]; exact Nat.le_of_ble_eq_true rfl⟩) rfl ⟨rfl, rfl⟩ ⟨by rw [hR_]; exact Nat.le_of_ble_eq_true rfl, by rw [hR_]; exact Nat.le_of_ble_eq_true rfl⟩ rfl rfl hl_.1 (Nat.le_of_ble_eq_true rfl) dX5_sound_1 ⟨Nat.zero_le _, Nat.zero_le _⟩ (fun H locs hP_ hD_ hS_ => ?_)
    refine jx_if_eq (tgt := 11) hx_ hb_ h_ dX5_sound_4 (by decide) (fun h_ => ?_) (fun h_ => ?_)
    · refine lv_iconst (v := jI (-1)) hx_ hb_ dX5_sound_11 (by decide +kernel) ?_
      exact hE_ _ _ _ _ _ _ _ h_ dX5_sound_12 hP_ hD_ hS_
    · refine lv_iload_n hx_ hb_ dX5_sound_7 rfl (lv_at hl_ 2 rfl) ?_
      refine jx_if_ge (tgt := 13) hx_ hb_ h_ dX5_sound_8 (by decide) (fun h_ => ?_) (fun h_ => ?_)
      · refine lv_aload_n hx_ hb_ dX5_sound_13 rfl (lv_at hl_ 0 rfl) ?_
        obtain ⟨ho_m2, eh_m3, hho_m2, h_⟩ := jb2_i h_
        refine jx_cvv (rv := 0) (wr := []) (cw := [(wMo y a rc is_ pd pn ho eh mv at_ tk fs lt ea), (wAr y (a 6) 205 stf), (wAr y (a 7) 205 kpf), (wAr y (a 8) 1230 hsf), (wAr y (a 9) 410 slf)]) (cw1 := [(wMo y a rc is_ pd pn ho_m2 eh_m3 mv at_ tk fs lt ea), (wAr y (a 6) 205 stf), (wAr y (a 7) 205 kpf), (wAr y (a 8) 1230 hsf), (wAr y (a 9) 410 slf)]) (cs1 := [(wMo y a rc is_ pd pn ho_m2 eh_m3 mv at_ tk fs lt ea), (wAr y (a 6) 205 stf), (wAr y (a 7) 205 kpf), (wAr y (a 8) 1230 hsf), (wAr y (a 9) 410 slf)]) (As := []) (rest := []) ⟨hx_, hb_, hml_, hown_, hts_⟩ hM_ hP_ hD_ hS_ hA_ (List.Perm.refl _) (List.Perm.refl _) (c_X5_findHeard l D y z a rc is_ pd pn ho eh mv at_ tk fs lt ea stf kpf hsf slf fu ho_m2 eh_m3 hho_m2) 0 gX5_sound_X5_findHeard rfl ⟨rfl, rfl⟩ (by decide +kernel) ⟨by rw [hR_]; exact Nat.le_of_ble_eq_true rfl, by rw [hR_]; exact Nat.le_of_ble_eq_true rfl⟩ 0 5 rfl rfl rfl rfl rfl hl_.1 (Nat.le_of_ble_eq_true rfl) dX5_sound_14 ⟨Nat.zero_le _, Nat.zero_le _⟩ (fun H locs hP_ hD_ hS_ => ?_)
        refine lv_aload_n hx_ hb_ dX5_sound_17 rfl (lv_at hl_ 0 rfl) ?_
        refine lv_iload_n hx_ hb_ dX5_sound_18 rfl (lv_at hl_ 1 rfl) ?_
        refine lv_iload_n hx_ hb_ dX5_sound_19 rfl (lv_at hl_ 2 rfl) ?_
        obtain ⟨v4, hv4, h_⟩ := jb_i h_
        refine jx_cvi (wr := []) (cw := [(wMo y a rc is_ pd pn ho_m2 eh_m3 mv at_ tk fs lt ea), (wAr y (a 6) 205 stf), (wAr y (a 7) 205 kpf), (wAr y (a 8) 1230 hsf), (wAr y (a 9) 410 slf)]) (cw1 := [(wMo y a rc is_ pd pn ho_m2 eh_m3 mv at_ tk fs lt ea), (wAr y (a 6) 205 stf), (wAr y (a 7) 205 kpf), (wAr y (a 8) 1230 hsf), (wAr y (a 9) 410 slf)]) (cs1 := [(wMo y a rc is_ pd pn ho_m2 eh_m3 mv at_ tk fs lt ea), (wAr y (a 6) 205 stf), (wAr y (a 7) 205 kpf), (wAr y (a 8) 1230 hsf), (wAr y (a 9) 410 slf)]) (As := [.int (jI x1), .int (jI x2)]) (rest := []) ⟨hx_, hb_, hml_, hown_, hts_⟩ hM_ hP_ hD_ hS_ hA_ (List.Perm.refl _) (List.Perm.refl _) (c_X5_beginOf l D y z a rc is_ pd pn ho_m2 eh_m3 mv at_ tk fs lt ea stf kpf hsf slf x1 x2 fu v4 hv4) 2 gX5_sound_X5_beginOf rfl ⟨rfl, rfl⟩ (by decide +kernel) ⟨by rw [hR_]; exact Nat.le_of_ble_eq_true rfl, by rw [hR_]; exact Nat.le_of_ble_eq_true rfl⟩ 0 5 rfl rfl rfl rfl rfl hl_.1 (Nat.le_of_ble_eq_true rfl) dX5_sound_20 ⟨Nat.zero_le _, Nat.zero_le _⟩ (fun H locs hP_ hD_ hS_ => ?_)
        refine lv_istore (lv' := [(4, .int (jI v4)), (0, .ref (a 0)), (1, .int (jI x1)), (2, .int (jI x2)), (3, .int (jI x3))]) hx_ hb_ dX5_sound_23 hl_ (by decide) rfl (fun ls hl_ => ?_)
        refine lv_iload hx_ hb_ dX5_sound_25 (lv_at hl_ 0 rfl) ?_
        refine lv_bipush (v := jI (-6)) hx_ hb_ dX5_sound_27 (by decide +kernel) ?_
        refine jx_icmp_ne (tgt := 34) hx_ hb_ h_ dX5_sound_29 (by decide) (fun h_ => ?_) (fun h_ => ?_)
        · refine lv_aload_n hx_ hb_ dX5_sound_34 rfl (lv_at hl_ 1 rfl) ?_
          refine lv_iload_n hx_ hb_ dX5_sound_35 rfl (lv_at hl_ 2 rfl) ?_
          refine lv_iload hx_ hb_ dX5_sound_36 (lv_at hl_ 0 rfl) ?_
          obtain ⟨v5, hv5, h_⟩ := jb_i h_
          refine jx_cvi (wr := []) (cw := [(wMo y a rc is_ pd pn ho_m2 eh_m3 mv at_ tk fs lt ea), (wAr y (a 6) 205 stf), (wAr y (a 7) 205 kpf), (wAr y (a 8) 1230 hsf), (wAr y (a 9) 410 slf)]) (cw1 := [(wMo y a rc is_ pd pn ho_m2 eh_m3 mv at_ tk fs lt ea), (wAr y (a 6) 205 stf), (wAr y (a 7) 205 kpf), (wAr y (a 8) 1230 hsf), (wAr y (a 9) 410 slf)]) (cs1 := [(wMo y a rc is_ pd pn ho_m2 eh_m3 mv at_ tk fs lt ea), (wAr y (a 6) 205 stf), (wAr y (a 7) 205 kpf), (wAr y (a 8) 1230 hsf), (wAr y (a 9) 410 slf)]) (As := [.int (jI x1), .int (jI v4)]) (rest := []) ⟨hx_, hb_, hml_, hown_, hts_⟩ hM_ hP_ hD_ hS_ hA_ (List.Perm.refl _) (List.Perm.refl _) (c_X5_endOf l D y z a rc is_ pd pn ho_m2 eh_m3 mv at_ tk fs lt ea stf kpf hsf slf x1 v4 fu v5 hv5) 2 gX5_sound_X5_endOf rfl ⟨rfl, rfl⟩ (by decide +kernel) ⟨by rw [hR_]; exact Nat.le_of_ble_eq_true rfl, by rw [hR_]; exact Nat.le_of_ble_eq_true rfl⟩ 0 5 rfl rfl rfl rfl rfl hl_.1 (Nat.le_of_ble_eq_true rfl) dX5_sound_38 ⟨Nat.zero_le _, Nat.zero_le _⟩ (fun H locs hP_ hD_ hS_ => ?_)
          refine lv_istore (lv' := [(5, .int (jI v5)), (4, .int (jI v4)), (0, .ref (a 0)), (1, .int (jI x1)), (2, .int (jI x2)), (3, .int (jI x3))]) hx_ hb_ dX5_sound_41 hl_ (by decide) rfl (fun ls hl_ => ?_)
          refine lv_iload_n hx_ hb_ dX5_sound_43 rfl (lv_at hl_ 5 rfl) ?_
          refine jx_if_ne (tgt := 52) hx_ hb_ h_ dX5_sound_44 (by decide) (fun h_ => ?_) (fun h_ => ?_)
          · refine lv_iload_n hx_ hb_ dX5_sound_52 rfl (lv_at hl_ 5 rfl) ?_
            refine lv_iconst (v := jI 1) hx_ hb_ dX5_sound_53 (by decide +kernel) ?_
            refine jx_icmp_ne (tgt := 62) hx_ hb_ h_ dX5_sound_54 (by decide) (fun h_ => ?_) (fun h_ => ?_)
            · refine lv_iload_n hx_ hb_ dX5_sound_62 rfl (lv_at hl_ 5 rfl) ?_
              refine lv_iconst (v := jI 2) hx_ hb_ dX5_sound_63 (by decide +kernel) ?_
              refine jx_icmp_ne (tgt := 79) hx_ hb_ h_ dX5_sound_64 (by decide) (fun h_ => ?_) (fun h_ => ?_)
              · refine lv_bipush (v := jI (-2)) hx_ hb_ dX5_sound_79 (by decide +kernel) ?_
                exact hE_ _ _ _ _ _ _ _ h_ dX5_sound_81 hP_ hD_ hS_
              · refine lv_aload_n hx_ hb_ dX5_sound_67 rfl (lv_at hl_ 2 rfl) ?_
                refine lv_iload_n hx_ hb_ dX5_sound_68 rfl (lv_at hl_ 3 rfl) ?_
                refine lv_iload hx_ hb_ dX5_sound_69 (lv_at hl_ 1 rfl) ?_
                refine lv_iload hx_ hb_ dX5_sound_71 (lv_at hl_ 0 rfl) ?_
                obtain ⟨v6, hv6, h_⟩ := jb_i h_
                refine jx_cvi (wr := []) (cw := [(wMo y a rc is_ pd pn ho_m2 eh_m3 mv at_ tk fs lt ea), (wAr y (a 6) 205 stf), (wAr y (a 7) 205 kpf), (wAr y (a 8) 1230 hsf), (wAr y (a 9) 410 slf)]) (cw1 := [(wMo y a rc is_ pd pn ho_m2 eh_m3 mv at_ tk fs lt ea), (wAr y (a 6) 205 stf), (wAr y (a 7) 205 kpf), (wAr y (a 8) 1230 hsf), (wAr y (a 9) 410 slf)]) (cs1 := [(wMo y a rc is_ pd pn ho_m2 eh_m3 mv at_ tk fs lt ea), (wAr y (a 6) 205 stf), (wAr y (a 7) 205 kpf), (wAr y (a 8) 1230 hsf), (wAr y (a 9) 410 slf)]) (As := [.int (jI x1), .int (jI v4), .int (jI v5)]) (rest := []) ⟨hx_, hb_, hml_, hown_, hts_⟩ hM_ hP_ hD_ hS_ hA_ (List.Perm.refl _) (List.Perm.refl _) (c_X5_notesIn l D y z a rc is_ pd pn ho_m2 eh_m3 mv at_ tk fs lt ea stf kpf hsf slf x1 v4 v5 fu v6 hv6) 3 gX5_sound_X5_notesIn rfl ⟨rfl, rfl⟩ (by decide +kernel) ⟨by rw [hR_]; exact Nat.le_of_ble_eq_true rfl, by rw [hR_]; exact Nat.le_of_ble_eq_true rfl⟩ 0 5 rfl rfl rfl rfl rfl hl_.1 (Nat.le_of_ble_eq_true rfl) dX5_sound_73 ⟨Nat.zero_le _, Nat.zero_le _⟩ (fun H locs hP_ hD_ hS_ => ?_)
                refine lv_goto (tgt := 81) hx_ hb_ dX5_sound_76 (by decide) ?_
                exact hE_ _ _ _ _ _ _ _ h_ dX5_sound_81 hP_ hD_ hS_
            · refine lv_iload hx_ hb_ dX5_sound_57 (lv_at hl_ 0 rfl) ?_
              refine lv_goto (tgt := 81) hx_ hb_ dX5_sound_59 (by decide) ?_
              exact hE_ _ _ _ _ _ _ _ h_ dX5_sound_81 hP_ hD_ hS_
          · refine lv_iload hx_ hb_ dX5_sound_47 (lv_at hl_ 1 rfl) ?_
            refine lv_goto (tgt := 81) hx_ hb_ dX5_sound_49 (by decide) ?_
            exact hE_ _ _ _ _ _ _ _ h_ dX5_sound_81 hP_ hD_ hS_
        · refine lv_iconst (v := jI (-1)) hx_ hb_ dX5_sound_32 (by decide +kernel) ?_
          exact hE_ _ _ _ _ _ _ _ h_ dX5_sound_33 hP_ hD_ hS_
      · refine lv_iconst (v := jI (-1)) hx_ hb_ dX5_sound_11 (by decide +kernel) ?_
        exact hE_ _ _ _ _ _ _ _ h_ dX5_sound_12 hP_ hD_ hS_
  exact key_ _ (fun v9 ho9 eh9 H locs pc ls h9_ hdg_ hP_ hD_ hS_ => by cases h9_; exact jend_i hx_ hb_ hr_ hlocks_ hP_ hD_ hS_ hdg_)
def rm_X5_greatestLast : Room := { frames := 1, cells := 0, slots := 0, locals := 22 }
set_option maxRecDepth 100000 in
set_option maxHeartbeats 8000000 in
theorem c_X5_greatestLast (l : Launch) (D : va_G) (y : Nat → ClassId) (z : Nat → Nat) (a : Nat → Nat) (rc : Int) (is_ : Int → Int) (pd : Int → Int) (pn : Int) (ho : Int → Int) (eh : Int → Int) (mv : Int → Int) (at_ : Int) (tk : Int) (fs : Int) (lt : Int) (ea : Int) (stf : Int → Int) (kpf : Int → Int) (hsf : Int → Int) (slf : Int → Int)  (fu : Nat) (rr : Int) (h_ : f_X5_greatestLast fu stf = some rr) : jCI l D y z yX5_greatestLast wsX5_greatestLast rm_X5_greatestLast [.ref (a 0)] [(wMo y a rc is_ pd pn ho eh mv at_ tk fs lt ea), (wAr y (a 6) 205 stf), (wAr y (a 7) 205 kpf), (wAr y (a 8) 1230 hsf), (wAr y (a 9) 410 slf)] [(wMo y a rc is_ pd pn ho eh mv at_ tk fs lt ea), (wAr y (a 6) 205 stf), (wAr y (a 7) 205 kpf), (wAr y (a 8) 1230 hsf), (wAr y (a 9) 410 slf)] rr := by
  intro sz
  refine jmet (Qc := (fun A => va_Qi (fun v (_ : Unit) => v = jI rr) (jB D A [(wMo y a rc is_ pd pn ho eh mv at_ tk fs lt ea), (wAr y (a 6) 205 stf), (wAr y (a 7) 205 kpf), (wAr y (a 8) 1230 hsf), (wAr y (a 9) 410 slf)]) A)) (cc := cX5_greatestLast) (maxL := 3) (ret := (some .int)) (own := RX5) (by decide) rfl (Nat.le_of_ble_eq_true rfl) rfl (fun p e s m R args below meth c A ls hR_ hargs_ hx_ hb_ hr_ hlocks_ hml_ hown_ hts_ hname_ hsz_ hP_ hD_ hA_ hM_ hl_ => ?_)
  have key_ : ∀ Q : State → Prop, (∀ (v9 : Int) (H : Heap) (locs : List Loc) (pc : Nat) (ls : Array Slot), some v9 = some rr → decode cX5_greatestLast pc = .ok (.ireturn, 1) → va_P D vwCl [(wMo y a rc is_ pd pn ho eh mv at_ tk fs lt ea), (wAr y (a 6) 205 stf), (wAr y (a 7) 205 kpf), (wAr y (a 8) 1230 hsf), (wAr y (a 9) 410 slf)].flatten H → va_D A [(wMo y a rc is_ pd pn ho eh mv at_ tk fs lt ea), (wAr y (a 6) 205 stf), (wAr y (a 7) 205 kpf), (wAr y (a 8) 1230 hsf), (wAr y (a 9) 410 slf)].flatten → va_S A s.heap H locs → W p l e R s m args below meth c H locs 0 0 Q (F0 m pc ls [.int (jI v9)])) → W p l e R s m args below meth c s.heap [] 0 0 Q (F0 m 0 ls []) := by
    intro Q hE_
    have hS_ : va_S A s.heap s.heap [] := va_S.rf
    have hl_ : lv_has ls 3 [(0, .ref (a 0))] := hl_
    have hin_ : ∀ w ∈ u_ws RX5 TX5 16, w ∈ wsX5_greatestLast := by decide +kernel
    unfold f_X5_greatestLast at h_
    refine lv_bipush (v := jI (-6)) hx_ hb_ dX5_greatestLast_0 (by decide +kernel) ?_
    refine lv_istore_n (lv' := [(1, .int (jI (-6))), (0, .ref (a 0))]) hx_ hb_ dX5_greatestLast_2 rfl hl_ (by decide) rfl (fun ls hl_ => ?_)
    refine lv_iconst (v := jI 0) hx_ hb_ dX5_greatestLast_3 (by decide +kernel) ?_
    refine lv_istore_n (lv' := [(2, .int (jI 0)), (1, .int (jI (-6))), (0, .ref (a 0))]) hx_ hb_ dX5_greatestLast_4 rfl hl_ (by decide) rfl (fun ls hl_ => ?_)
    have hX42 : ∀ (v1 : Int) (H : Heap) (locs : List Loc) (ls : Array Slot), f_X5_greatestLast_X42 fu v1 = some rr → va_P D vwCl [(wMo y a rc is_ pd pn ho eh mv at_ tk fs lt ea), (wAr y (a 6) 205 stf), (wAr y (a 7) 205 kpf), (wAr y (a 8) 1230 hsf), (wAr y (a 9) 410 slf)].flatten H → va_D A [(wMo y a rc is_ pd pn ho eh mv at_ tk fs lt ea), (wAr y (a 6) 205 stf), (wAr y (a 7) 205 kpf), (wAr y (a 8) 1230 hsf), (wAr y (a 9) 410 slf)].flatten → va_S A s.heap H locs → lv_has ls 3 [(1, .int (jI v1))] → W p l e R s m args below meth c H locs 0 0 Q (F0 m 42 ls []) := by
      intro v1 H locs ls h_ hP_ hD_ hS_ hl_
      unfold f_X5_greatestLast_X42 at h_
      refine lv_iload_n hx_ hb_ dX5_greatestLast_42 rfl (lv_at hl_ 0 rfl) ?_
      exact hE_ _ _ _ _ _ h_ dX5_greatestLast_43 hP_ hD_ hS_
    have hL5 : ∀ n5 : Nat, ∀ (v2 : Int) (v3 : Int) (H : Heap) (locs : List Loc) (ls : Array Slot), f_X5_greatestLast_L5 fu stf (f_X5_greatestLast_X42 fu) n5 v2 v3 = some rr → va_P D vwCl [(wMo y a rc is_ pd pn ho eh mv at_ tk fs lt ea), (wAr y (a 6) 205 stf), (wAr y (a 7) 205 kpf), (wAr y (a 8) 1230 hsf), (wAr y (a 9) 410 slf)].flatten H → va_D A [(wMo y a rc is_ pd pn ho eh mv at_ tk fs lt ea), (wAr y (a 6) 205 stf), (wAr y (a 7) 205 kpf), (wAr y (a 8) 1230 hsf), (wAr y (a 9) 410 slf)].flatten → va_S A s.heap H locs → lv_has ls 3 [(0, .ref (a 0)), (1, .int (jI v2)), (2, .int (jI v3))] → W p l e R s m args below meth c H locs 0 0 Q (F0 m 5 ls []) := by
      intro n5
      induction n5 with
      | zero => intro _ _ H locs ls h_; have h_ : (none : Option (Int)) = some rr := h_; cases h_
      | succ n5 ih5 =>
        intro v2 v3 H locs ls h_ hP_ hD_ hS_ hl_
        replace h_ : f_X5_greatestLast_L5_b fu stf (f_X5_greatestLast_X42 fu) (f_X5_greatestLast_L5 fu stf (f_X5_greatestLast_X42 fu) n5) v2 v3 = some rr := h_
        unfold f_X5_greatestLast_L5_b at h_
        refine lv_iload_n hx_ hb_ dX5_greatestLast_5 rfl (lv_at hl_ 2 rfl) ?_
        refine lv_aload_n hx_ hb_ dX5_greatestLast_6 rfl (lv_at hl_ 0 rfl) ?_
        refine va_get (D := D) (ci := 5) (v := .ref (a 6)) (C := RX5) (T := TX5) (N := 16) hx_ hb_ hts_ hin_ hown_ hM_.1 hP_ 0 rfl rfl 0 (by decide) (hts_ (.fieldLink RX5 7 "MusicHolesModel" "state" "[I") (by decide +kernel)) (fun _ h9_ => h9_) rfl dX5_greatestLast_7 ?_
        refine lv_iconst (v := jI 4) hx_ hb_ dX5_greatestLast_10 (by decide +kernel) ?_
        refine jx_iald hx_ hb_ hM_ hP_ 6 0 rfl rfl rfl (Nat.le_of_ble_eq_true rfl) h_ dX5_greatestLast_11 (fun h_ => ?_)
        refine jx_icmp_ge (tgt := 42) hx_ hb_ h_ dX5_greatestLast_12 (by decide) (fun h_ => ?_) (fun h_ => ?_)
        · exact hX42 _ _ _ ls h_ hP_ hD_ hS_ (lv_sub hl_ [1] rfl)
        · refine lv_aload_n hx_ hb_ dX5_greatestLast_15 rfl (lv_at hl_ 0 rfl) ?_
          refine lv_iload_n hx_ hb_ dX5_greatestLast_16 rfl (lv_at hl_ 2 rfl) ?_
          refine lv_iconst (v := jI 2) hx_ hb_ dX5_greatestLast_17 (by decide +kernel) ?_
          obtain ⟨v4, hv4, h_⟩ := jb_i h_
          refine jx_cvi (wr := []) (cw := [(wMo y a rc is_ pd pn ho eh mv at_ tk fs lt ea), (wAr y (a 6) 205 stf), (wAr y (a 7) 205 kpf), (wAr y (a 8) 1230 hsf), (wAr y (a 9) 410 slf)]) (cw1 := [(wMo y a rc is_ pd pn ho eh mv at_ tk fs lt ea), (wAr y (a 6) 205 stf), (wAr y (a 7) 205 kpf), (wAr y (a 8) 1230 hsf), (wAr y (a 9) 410 slf)]) (cs1 := [(wMo y a rc is_ pd pn ho eh mv at_ tk fs lt ea), (wAr y (a 6) 205 stf), (wAr y (a 7) 205 kpf), (wAr y (a 8) 1230 hsf), (wAr y (a 9) 410 slf)]) (As := [.int (jI v3), .int (jI 2)]) (rest := []) ⟨hx_, hb_, hml_, hown_, hts_⟩ hM_ hP_ hD_ hS_ hA_ (List.Perm.refl _) (List.Perm.refl _) (c_X5_part l D y z a rc is_ pd pn ho eh mv at_ tk fs lt ea stf kpf hsf slf v3 2 fu v4 hv4) 2 gX5_greatestLast_X5_part rfl ⟨rfl, rfl⟩ (by decide +kernel) ⟨by rw [hR_]; exact Nat.le_of_ble_eq_true rfl, by rw [hR_]; exact Nat.le_of_ble_eq_true rfl⟩ 0 5 rfl rfl rfl rfl rfl hl_.1 (Nat.le_of_ble_eq_true rfl) dX5_greatestLast_18 ⟨Nat.zero_le _, Nat.zero_le _⟩ (fun H locs hP_ hD_ hS_ => ?_)
          refine lv_iload_n hx_ hb_ dX5_greatestLast_21 rfl (lv_at hl_ 1 rfl) ?_
          refine jx_icmp_le (tgt := 34) hx_ hb_ h_ dX5_greatestLast_22 (by decide) (fun h_ => ?_) (fun h_ => ?_)
          · refine lv_iload_n hx_ hb_ dX5_greatestLast_34 rfl (lv_at hl_ 1 rfl) ?_
            refine lv_istore_n (lv' := [(1, .int (jI v2)), (0, .ref (a 0)), (2, .int (jI v3))]) hx_ hb_ dX5_greatestLast_35 rfl hl_ (by decide) rfl (fun ls hl_ => ?_)
            refine lv_iinc (v := jI (v3 + 1)) (lv' := [(2, .int (jI (v3 + 1))), (1, .int (jI v2)), (0, .ref (a 0))]) hx_ hb_ dX5_greatestLast_36 hl_ (k := 2) rfl (jI_add _ _) (by decide) rfl (fun ls hl_ => ?_)
            refine lv_goto (tgt := 5) hx_ hb_ dX5_greatestLast_39 (by decide) ?_
            exact ih5 _ _ _ _ ls h_ hP_ hD_ hS_ (lv_sub hl_ [2, 1, 0] rfl)
          · refine lv_aload_n hx_ hb_ dX5_greatestLast_25 rfl (lv_at hl_ 0 rfl) ?_
            refine lv_iload_n hx_ hb_ dX5_greatestLast_26 rfl (lv_at hl_ 2 rfl) ?_
            refine lv_iconst (v := jI 2) hx_ hb_ dX5_greatestLast_27 (by decide +kernel) ?_
            obtain ⟨v5, hv5, h_⟩ := jb_i h_
            refine jx_cvi (wr := []) (cw := [(wMo y a rc is_ pd pn ho eh mv at_ tk fs lt ea), (wAr y (a 6) 205 stf), (wAr y (a 7) 205 kpf), (wAr y (a 8) 1230 hsf), (wAr y (a 9) 410 slf)]) (cw1 := [(wMo y a rc is_ pd pn ho eh mv at_ tk fs lt ea), (wAr y (a 6) 205 stf), (wAr y (a 7) 205 kpf), (wAr y (a 8) 1230 hsf), (wAr y (a 9) 410 slf)]) (cs1 := [(wMo y a rc is_ pd pn ho eh mv at_ tk fs lt ea), (wAr y (a 6) 205 stf), (wAr y (a 7) 205 kpf), (wAr y (a 8) 1230 hsf), (wAr y (a 9) 410 slf)]) (As := [.int (jI v3), .int (jI 2)]) (rest := []) ⟨hx_, hb_, hml_, hown_, hts_⟩ hM_ hP_ hD_ hS_ hA_ (List.Perm.refl _) (List.Perm.refl _) (c_X5_part l D y z a rc is_ pd pn ho eh mv at_ tk fs lt ea stf kpf hsf slf v3 2 fu v5 hv5) 2 gX5_greatestLast_X5_part rfl ⟨rfl, rfl⟩ (by decide +kernel) ⟨by rw [hR_]; exact Nat.le_of_ble_eq_true rfl, by rw [hR_]; exact Nat.le_of_ble_eq_true rfl⟩ 0 5 rfl rfl rfl rfl rfl hl_.1 (Nat.le_of_ble_eq_true rfl) dX5_greatestLast_28 ⟨Nat.zero_le _, Nat.zero_le _⟩ (fun H locs hP_ hD_ hS_ => ?_)
            refine lv_goto (tgt := 35) hx_ hb_ dX5_greatestLast_31 (by decide) ?_
            refine lv_istore_n (lv' := [(1, .int (jI v5)), (0, .ref (a 0)), (2, .int (jI v3))]) hx_ hb_ dX5_greatestLast_35 rfl hl_ (by decide) rfl (fun ls hl_ => ?_)
            refine lv_iinc (v := jI (v3 + 1)) (lv' := [(2, .int (jI (v3 + 1))), (1, .int (jI v5)), (0, .ref (a 0))]) hx_ hb_ dX5_greatestLast_36 hl_ (k := 2) rfl (jI_add _ _) (by decide) rfl (fun ls hl_ => ?_)
            refine lv_goto (tgt := 5) hx_ hb_ dX5_greatestLast_39 (by decide) ?_
            exact ih5 _ _ _ _ ls h_ hP_ hD_ hS_ (lv_sub hl_ [2, 1, 0] rfl)
    exact hL5 fu _ _ _ _ ls h_ hP_ hD_ hS_ (lv_sub hl_ [2, 1, 0] rfl)
  exact key_ _ (fun v9 H locs pc ls h9_ hdg_ hP_ hD_ hS_ => by cases h9_; exact jend_i hx_ hb_ hr_ hlocks_ hP_ hD_ hS_ hdg_)
def rm_X5_count : Room := { frames := 5, cells := 0, slots := 0, locals := 113 }
set_option maxRecDepth 100000 in
set_option maxHeartbeats 8000000 in
theorem c_X5_count (l : Launch) (D : va_G) (y : Nat → ClassId) (z : Nat → Nat) (a : Nat → Nat) (rc : Int) (is_ : Int → Int) (pd : Int → Int) (pn : Int) (ho : Int → Int) (eh : Int → Int) (mv : Int → Int) (at_ : Int) (tk : Int) (fs : Int) (lt : Int) (ea : Int) (stf : Int → Int) (kpf : Int → Int) (hsf : Int → Int) (slf : Int → Int) (x1 : Int) (fu : Nat) (rr : Int) (q_ho : Int → Int) (q_eh : Int → Int) (h_ : f_X5_count fu rc pn ho eh stf x1 = some (rr, q_ho, q_eh)) : jCI l D y z yX5_count wsX5_count rm_X5_count [.ref (a 0), .int (jI x1)] [(wMo y a rc is_ pd pn ho eh mv at_ tk fs lt ea), (wAr y (a 6) 205 stf), (wAr y (a 7) 205 kpf), (wAr y (a 8) 1230 hsf), (wAr y (a 9) 410 slf)] [(wMo y a rc is_ pd pn q_ho q_eh mv at_ tk fs lt ea), (wAr y (a 6) 205 stf), (wAr y (a 7) 205 kpf), (wAr y (a 8) 1230 hsf), (wAr y (a 9) 410 slf)] rr := by
  intro sz
  refine jmet (Qc := (fun A => va_Qi (fun v (_ : Unit) => v = jI rr) (jB D A [(wMo y a rc is_ pd pn q_ho q_eh mv at_ tk fs lt ea), (wAr y (a 6) 205 stf), (wAr y (a 7) 205 kpf), (wAr y (a 8) 1230 hsf), (wAr y (a 9) 410 slf)]) A)) (cc := cX5_count) (maxL := 2) (ret := (some .int)) (own := RX5) (by decide) rfl (Nat.le_of_ble_eq_true rfl) rfl (fun p e s m R args below meth c A ls hR_ hargs_ hx_ hb_ hr_ hlocks_ hml_ hown_ hts_ hname_ hsz_ hP_ hD_ hA_ hM_ hl_ => ?_)
  have key_ : ∀ Q : State → Prop, (∀ (v9 : Int) (ho9 : Int → Int) (eh9 : Int → Int) (H : Heap) (locs : List Loc) (pc : Nat) (ls : Array Slot), some (v9, ho9, eh9) = some (rr, q_ho, q_eh) → decode cX5_count pc = .ok (.ireturn, 1) → va_P D vwCl [(wMo y a rc is_ pd pn ho9 eh9 mv at_ tk fs lt ea), (wAr y (a 6) 205 stf), (wAr y (a 7) 205 kpf), (wAr y (a 8) 1230 hsf), (wAr y (a 9) 410 slf)].flatten H → va_D A [(wMo y a rc is_ pd pn ho9 eh9 mv at_ tk fs lt ea), (wAr y (a 6) 205 stf), (wAr y (a 7) 205 kpf), (wAr y (a 8) 1230 hsf), (wAr y (a 9) 410 slf)].flatten → va_S A s.heap H locs → W p l e R s m args below meth c H locs 0 0 Q (F0 m pc ls [.int (jI v9)])) → W p l e R s m args below meth c s.heap [] 0 0 Q (F0 m 0 ls []) := by
    intro Q hE_
    have hS_ : va_S A s.heap s.heap [] := va_S.rf
    have hl_ : lv_has ls 2 [(0, .ref (a 0)), (1, .int (jI x1))] := hl_
    have hin_ : ∀ w ∈ u_ws RX5 TX5 16, w ∈ wsX5_count := by decide +kernel
    unfold f_X5_count at h_
    refine lv_iload_n hx_ hb_ dX5_count_0 rfl (lv_at hl_ 1 rfl) ?_
    obtain ⟨hsw_, -, h_⟩ := jck_i h_
    by_cases csw : x1 = 0
    · rw [if_pos csw] at h_
      refine jx_tabI (tgt := 68) hx_ hb_ hsw_ dX5_count_1 0 csw (by decide) (by decide) (by rfl) (by decide) ?_
      refine lv_aload_n hx_ hb_ dX5_count_68 rfl (lv_at hl_ 0 rfl) ?_
      refine va_get (D := D) (ci := 5) (v := .ref (a 6)) (C := RX5) (T := TX5) (N := 16) hx_ hb_ hts_ hin_ hown_ hM_.1 hP_ 0 rfl rfl 0 (by decide) (hts_ (.fieldLink RX5 7 "MusicHolesModel" "state" "[I") (by decide +kernel)) (fun _ h9_ => h9_) rfl dX5_count_69 ?_
      refine lv_iconst (v := jI 4) hx_ hb_ dX5_count_72 (by decide +kernel) ?_
      refine jx_iald hx_ hb_ hM_ hP_ 6 0 rfl rfl rfl (Nat.le_of_ble_eq_true rfl) h_ dX5_count_73 (fun h_ => ?_)
      exact hE_ _ _ _ _ _ _ _ h_ dX5_count_74 hP_ hD_ hS_
    rw [if_neg csw] at h_
    have csw0 := csw; clear csw
    by_cases csw : x1 = 1
    · rw [if_pos csw] at h_
      refine jx_tabI (tgt := 75) hx_ hb_ hsw_ dX5_count_1 1 csw (by decide) (by decide) (by rfl) (by decide) ?_
      refine lv_aload_n hx_ hb_ dX5_count_75 rfl (lv_at hl_ 0 rfl) ?_
      obtain ⟨v1, ho_m2, hv1, h_⟩ := jb2_i h_
      refine jx_cvi (wr := []) (cw := [(wMo y a rc is_ pd pn ho eh mv at_ tk fs lt ea), (wAr y (a 6) 205 stf), (wAr y (a 7) 205 kpf), (wAr y (a 8) 1230 hsf), (wAr y (a 9) 410 slf)]) (cw1 := [(wMo y a rc is_ pd pn ho_m2 eh mv at_ tk fs lt ea), (wAr y (a 6) 205 stf), (wAr y (a 7) 205 kpf), (wAr y (a 8) 1230 hsf), (wAr y (a 9) 410 slf)]) (cs1 := [(wMo y a rc is_ pd pn ho_m2 eh mv at_ tk fs lt ea), (wAr y (a 6) 205 stf), (wAr y (a 7) 205 kpf), (wAr y (a 8) 1230 hsf), (wAr y (a 9) 410 slf)]) (As := []) (rest := []) ⟨hx_, hb_, hml_, hown_, hts_⟩ hM_ hP_ hD_ hS_ hA_ (List.Perm.refl _) (List.Perm.refl _) (c_X5_allHoles l D y z a rc is_ pd pn ho eh mv at_ tk fs lt ea stf kpf hsf slf fu v1 ho_m2 hv1) 0 gX5_count_X5_allHoles rfl ⟨rfl, rfl⟩ (by decide +kernel) ⟨by rw [hR_]; exact Nat.le_of_ble_eq_true rfl, by rw [hR_]; exact Nat.le_of_ble_eq_true rfl⟩ 0 5 rfl rfl rfl rfl rfl hl_.1 (Nat.le_of_ble_eq_true rfl) dX5_count_76 ⟨Nat.zero_le _, Nat.zero_le _⟩ (fun H locs hP_ hD_ hS_ => ?_)
      exact hE_ _ _ _ _ _ _ _ h_ dX5_count_79 hP_ hD_ hS_
    rw [if_neg csw] at h_
    have csw1 := csw; clear csw
    by_cases csw : x1 = 2
    · rw [if_pos csw] at h_
      refine jx_tabI (tgt := 80) hx_ hb_ hsw_ dX5_count_1 2 csw (by decide) (by decide) (by rfl) (by decide) ?_
      refine lv_aload_n hx_ hb_ dX5_count_80 rfl (lv_at hl_ 0 rfl) ?_
      obtain ⟨v3, ho_m4, hv3, h_⟩ := jb2_i h_
      refine jx_cvi (wr := []) (cw := [(wMo y a rc is_ pd pn ho eh mv at_ tk fs lt ea), (wAr y (a 6) 205 stf), (wAr y (a 7) 205 kpf), (wAr y (a 8) 1230 hsf), (wAr y (a 9) 410 slf)]) (cw1 := [(wMo y a rc is_ pd pn ho_m4 eh mv at_ tk fs lt ea), (wAr y (a 6) 205 stf), (wAr y (a 7) 205 kpf), (wAr y (a 8) 1230 hsf), (wAr y (a 9) 410 slf)]) (cs1 := [(wMo y a rc is_ pd pn ho_m4 eh mv at_ tk fs lt ea), (wAr y (a 6) 205 stf), (wAr y (a 7) 205 kpf), (wAr y (a 8) 1230 hsf), (wAr y (a 9) 410 slf)]) (As := []) (rest := []) ⟨hx_, hb_, hml_, hown_, hts_⟩ hM_ hP_ hD_ hS_ hA_ (List.Perm.refl _) (List.Perm.refl _) (c_X5_weakMany l D y z a rc is_ pd pn ho eh mv at_ tk fs lt ea stf kpf hsf slf fu v3 ho_m4 hv3) 0 gX5_count_X5_weakMany rfl ⟨rfl, rfl⟩ (by decide +kernel) ⟨by rw [hR_]; exact Nat.le_of_ble_eq_true rfl, by rw [hR_]; exact Nat.le_of_ble_eq_true rfl⟩ 0 5 rfl rfl rfl rfl rfl hl_.1 (Nat.le_of_ble_eq_true rfl) dX5_count_81 ⟨Nat.zero_le _, Nat.zero_le _⟩ (fun H locs hP_ hD_ hS_ => ?_)
      exact hE_ _ _ _ _ _ _ _ h_ dX5_count_84 hP_ hD_ hS_
    rw [if_neg csw] at h_
    have csw2 := csw; clear csw
    by_cases csw : x1 = 3
    · rw [if_pos csw] at h_
      refine jx_tabI (tgt := 85) hx_ hb_ hsw_ dX5_count_1 3 csw (by decide) (by decide) (by rfl) (by decide) ?_
      refine lv_aload_n hx_ hb_ dX5_count_85 rfl (lv_at hl_ 0 rfl) ?_
      obtain ⟨v5, ho_m6, hv5, h_⟩ := jb2_i h_
      refine jx_cvi (wr := []) (cw := [(wMo y a rc is_ pd pn ho eh mv at_ tk fs lt ea), (wAr y (a 6) 205 stf), (wAr y (a 7) 205 kpf), (wAr y (a 8) 1230 hsf), (wAr y (a 9) 410 slf)]) (cw1 := [(wMo y a rc is_ pd pn ho_m6 eh mv at_ tk fs lt ea), (wAr y (a 6) 205 stf), (wAr y (a 7) 205 kpf), (wAr y (a 8) 1230 hsf), (wAr y (a 9) 410 slf)]) (cs1 := [(wMo y a rc is_ pd pn ho_m6 eh mv at_ tk fs lt ea), (wAr y (a 6) 205 stf), (wAr y (a 7) 205 kpf), (wAr y (a 8) 1230 hsf), (wAr y (a 9) 410 slf)]) (As := []) (rest := []) ⟨hx_, hb_, hml_, hown_, hts_⟩ hM_ hP_ hD_ hS_ hA_ (List.Perm.refl _) (List.Perm.refl _) (c_X5_firstWeak l D y z a rc is_ pd pn ho eh mv at_ tk fs lt ea stf kpf hsf slf fu v5 ho_m6 hv5) 0 gX5_count_X5_firstWeak rfl ⟨rfl, rfl⟩ (by decide +kernel) ⟨by rw [hR_]; exact Nat.le_of_ble_eq_true rfl, by rw [hR_]; exact Nat.le_of_ble_eq_true rfl⟩ 0 5 rfl rfl rfl rfl rfl hl_.1 (Nat.le_of_ble_eq_true rfl) dX5_count_86 ⟨Nat.zero_le _, Nat.zero_le _⟩ (fun H locs hP_ hD_ hS_ => ?_)
      exact hE_ _ _ _ _ _ _ _ h_ dX5_count_89 hP_ hD_ hS_
    rw [if_neg csw] at h_
    have csw3 := csw; clear csw
    by_cases csw : x1 = 4
    · rw [if_pos csw] at h_
      refine jx_tabI (tgt := 90) hx_ hb_ hsw_ dX5_count_1 4 csw (by decide) (by decide) (by rfl) (by decide) ?_
      refine lv_aload_n hx_ hb_ dX5_count_90 rfl (lv_at hl_ 0 rfl) ?_
      obtain ⟨v7, ho_m8, eh_m9, hv7, h_⟩ := jb3_i h_
      refine jx_cvi (wr := []) (cw := [(wMo y a rc is_ pd pn ho eh mv at_ tk fs lt ea), (wAr y (a 6) 205 stf), (wAr y (a 7) 205 kpf), (wAr y (a 8) 1230 hsf), (wAr y (a 9) 410 slf)]) (cw1 := [(wMo y a rc is_ pd pn ho_m8 eh_m9 mv at_ tk fs lt ea), (wAr y (a 6) 205 stf), (wAr y (a 7) 205 kpf), (wAr y (a 8) 1230 hsf), (wAr y (a 9) 410 slf)]) (cs1 := [(wMo y a rc is_ pd pn ho_m8 eh_m9 mv at_ tk fs lt ea), (wAr y (a 6) 205 stf), (wAr y (a 7) 205 kpf), (wAr y (a 8) 1230 hsf), (wAr y (a 9) 410 slf)]) (As := []) (rest := []) ⟨hx_, hb_, hml_, hown_, hts_⟩ hM_ hP_ hD_ hS_ hA_ (List.Perm.refl _) (List.Perm.refl _) (c_X5_soundsMany l D y z a rc is_ pd pn ho eh mv at_ tk fs lt ea stf kpf hsf slf fu v7 ho_m8 eh_m9 hv7) 0 gX5_count_X5_soundsMany rfl ⟨rfl, rfl⟩ (by decide +kernel) ⟨by rw [hR_]; exact Nat.le_of_ble_eq_true rfl, by rw [hR_]; exact Nat.le_of_ble_eq_true rfl⟩ 0 5 rfl rfl rfl rfl rfl hl_.1 (Nat.le_of_ble_eq_true rfl) dX5_count_91 ⟨Nat.zero_le _, Nat.zero_le _⟩ (fun H locs hP_ hD_ hS_ => ?_)
      exact hE_ _ _ _ _ _ _ _ h_ dX5_count_94 hP_ hD_ hS_
    rw [if_neg csw] at h_
    have csw4 := csw; clear csw
    by_cases csw : x1 = 5
    · rw [if_pos csw] at h_
      refine jx_tabI (tgt := 95) hx_ hb_ hsw_ dX5_count_1 5 csw (by decide) (by decide) (by rfl) (by decide) ?_
      refine lv_aload_n hx_ hb_ dX5_count_95 rfl (lv_at hl_ 0 rfl) ?_
      obtain ⟨v10, ho_m11, eh_m12, hv10, h_⟩ := jb3_i h_
      refine jx_cvi (wr := []) (cw := [(wMo y a rc is_ pd pn ho eh mv at_ tk fs lt ea), (wAr y (a 6) 205 stf), (wAr y (a 7) 205 kpf), (wAr y (a 8) 1230 hsf), (wAr y (a 9) 410 slf)]) (cw1 := [(wMo y a rc is_ pd pn ho_m11 eh_m12 mv at_ tk fs lt ea), (wAr y (a 6) 205 stf), (wAr y (a 7) 205 kpf), (wAr y (a 8) 1230 hsf), (wAr y (a 9) 410 slf)]) (cs1 := [(wMo y a rc is_ pd pn ho_m11 eh_m12 mv at_ tk fs lt ea), (wAr y (a 6) 205 stf), (wAr y (a 7) 205 kpf), (wAr y (a 8) 1230 hsf), (wAr y (a 9) 410 slf)]) (As := []) (rest := []) ⟨hx_, hb_, hml_, hown_, hts_⟩ hM_ hP_ hD_ hS_ hA_ (List.Perm.refl _) (List.Perm.refl _) (c_X5_withGap l D y z a rc is_ pd pn ho eh mv at_ tk fs lt ea stf kpf hsf slf fu v10 ho_m11 eh_m12 hv10) 0 gX5_count_X5_withGap rfl ⟨rfl, rfl⟩ (by decide +kernel) ⟨by rw [hR_]; exact Nat.le_of_ble_eq_true rfl, by rw [hR_]; exact Nat.le_of_ble_eq_true rfl⟩ 0 5 rfl rfl rfl rfl rfl hl_.1 (Nat.le_of_ble_eq_true rfl) dX5_count_96 ⟨Nat.zero_le _, Nat.zero_le _⟩ (fun H locs hP_ hD_ hS_ => ?_)
      exact hE_ _ _ _ _ _ _ _ h_ dX5_count_99 hP_ hD_ hS_
    rw [if_neg csw] at h_
    have csw5 := csw; clear csw
    by_cases csw : x1 = 6
    · rw [if_pos csw] at h_
      refine jx_tabI (tgt := 100) hx_ hb_ hsw_ dX5_count_1 6 csw (by decide) (by decide) (by rfl) (by decide) ?_
      refine lv_aload_n hx_ hb_ dX5_count_100 rfl (lv_at hl_ 0 rfl) ?_
      obtain ⟨v13, hv13, h_⟩ := jb_i h_
      refine jx_cvi (wr := []) (cw := [(wMo y a rc is_ pd pn ho eh mv at_ tk fs lt ea), (wAr y (a 6) 205 stf), (wAr y (a 7) 205 kpf), (wAr y (a 8) 1230 hsf), (wAr y (a 9) 410 slf)]) (cw1 := [(wMo y a rc is_ pd pn ho eh mv at_ tk fs lt ea), (wAr y (a 6) 205 stf), (wAr y (a 7) 205 kpf), (wAr y (a 8) 1230 hsf), (wAr y (a 9) 410 slf)]) (cs1 := [(wMo y a rc is_ pd pn ho eh mv at_ tk fs lt ea), (wAr y (a 6) 205 stf), (wAr y (a 7) 205 kpf), (wAr y (a 8) 1230 hsf), (wAr y (a 9) 410 slf)]) (As := []) (rest := []) ⟨hx_, hb_, hml_, hown_, hts_⟩ hM_ hP_ hD_ hS_ hA_ (List.Perm.refl _) (List.Perm.refl _) (c_X5_greatestLast l D y z a rc is_ pd pn ho eh mv at_ tk fs lt ea stf kpf hsf slf fu v13 hv13) 0 gX5_count_X5_greatestLast rfl ⟨rfl, rfl⟩ (by decide +kernel) ⟨by rw [hR_]; exact Nat.le_of_ble_eq_true rfl, by rw [hR_]; exact Nat.le_of_ble_eq_true rfl⟩ 0 5 rfl rfl rfl rfl rfl hl_.1 (Nat.le_of_ble_eq_true rfl) dX5_count_101 ⟨Nat.zero_le _, Nat.zero_le _⟩ (fun H locs hP_ hD_ hS_ => ?_)
      exact hE_ _ _ _ _ _ _ _ h_ dX5_count_104 hP_ hD_ hS_
    rw [if_neg csw] at h_
    have csw6 := csw; clear csw
    by_cases csw : x1 = 7
    · rw [if_pos csw] at h_
      refine jx_tabI (tgt := 105) hx_ hb_ hsw_ dX5_count_1 7 csw (by decide) (by decide) (by rfl) (by decide) ?_
      refine lv_aload_n hx_ hb_ dX5_count_105 rfl (lv_at hl_ 0 rfl) ?_
      refine va_get (D := D) (ci := 5) (v := .ref (a 6)) (C := RX5) (T := TX5) (N := 16) hx_ hb_ hts_ hin_ hown_ hM_.1 hP_ 0 rfl rfl 0 (by decide) (hts_ (.fieldLink RX5 7 "MusicHolesModel" "state" "[I") (by decide +kernel)) (fun _ h9_ => h9_) rfl dX5_count_106 ?_
      refine lv_iload_n hx_ hb_ dX5_count_109 rfl (lv_at hl_ 1 rfl) ?_
      refine lv_bipush (v := jI 7) hx_ hb_ dX5_count_110 (by decide +kernel) ?_
      refine jx_isub hx_ hb_ dX5_count_112 ?_
      refine jx_iald hx_ hb_ hM_ hP_ 6 0 rfl rfl rfl (Nat.le_of_ble_eq_true rfl) h_ dX5_count_113 (fun h_ => ?_)
      exact hE_ _ _ _ _ _ _ _ h_ dX5_count_114 hP_ hD_ hS_
    rw [if_neg csw] at h_
    have csw7 := csw; clear csw
    by_cases csw : x1 = 8
    · rw [if_pos csw] at h_
      refine jx_tabI (tgt := 105) hx_ hb_ hsw_ dX5_count_1 8 csw (by decide) (by decide) (by rfl) (by decide) ?_
      refine lv_aload_n hx_ hb_ dX5_count_105 rfl (lv_at hl_ 0 rfl) ?_
      refine va_get (D := D) (ci := 5) (v := .ref (a 6)) (C := RX5) (T := TX5) (N := 16) hx_ hb_ hts_ hin_ hown_ hM_.1 hP_ 0 rfl rfl 0 (by decide) (hts_ (.fieldLink RX5 7 "MusicHolesModel" "state" "[I") (by decide +kernel)) (fun _ h9_ => h9_) rfl dX5_count_106 ?_
      refine lv_iload_n hx_ hb_ dX5_count_109 rfl (lv_at hl_ 1 rfl) ?_
      refine lv_bipush (v := jI 7) hx_ hb_ dX5_count_110 (by decide +kernel) ?_
      refine jx_isub hx_ hb_ dX5_count_112 ?_
      refine jx_iald hx_ hb_ hM_ hP_ 6 0 rfl rfl rfl (Nat.le_of_ble_eq_true rfl) h_ dX5_count_113 (fun h_ => ?_)
      exact hE_ _ _ _ _ _ _ _ h_ dX5_count_114 hP_ hD_ hS_
    rw [if_neg csw] at h_
    have csw8 := csw; clear csw
    by_cases csw : x1 = 9
    · rw [if_pos csw] at h_
      refine jx_tabI (tgt := 105) hx_ hb_ hsw_ dX5_count_1 9 csw (by decide) (by decide) (by rfl) (by decide) ?_
      refine lv_aload_n hx_ hb_ dX5_count_105 rfl (lv_at hl_ 0 rfl) ?_
      refine va_get (D := D) (ci := 5) (v := .ref (a 6)) (C := RX5) (T := TX5) (N := 16) hx_ hb_ hts_ hin_ hown_ hM_.1 hP_ 0 rfl rfl 0 (by decide) (hts_ (.fieldLink RX5 7 "MusicHolesModel" "state" "[I") (by decide +kernel)) (fun _ h9_ => h9_) rfl dX5_count_106 ?_
      refine lv_iload_n hx_ hb_ dX5_count_109 rfl (lv_at hl_ 1 rfl) ?_
      refine lv_bipush (v := jI 7) hx_ hb_ dX5_count_110 (by decide +kernel) ?_
      refine jx_isub hx_ hb_ dX5_count_112 ?_
      refine jx_iald hx_ hb_ hM_ hP_ 6 0 rfl rfl rfl (Nat.le_of_ble_eq_true rfl) h_ dX5_count_113 (fun h_ => ?_)
      exact hE_ _ _ _ _ _ _ _ h_ dX5_count_114 hP_ hD_ hS_
    rw [if_neg csw] at h_
    have csw9 := csw; clear csw
    by_cases csw : x1 = 10
    · rw [if_pos csw] at h_
      refine jx_tabI (tgt := 105) hx_ hb_ hsw_ dX5_count_1 10 csw (by decide) (by decide) (by rfl) (by decide) ?_
      refine lv_aload_n hx_ hb_ dX5_count_105 rfl (lv_at hl_ 0 rfl) ?_
      refine va_get (D := D) (ci := 5) (v := .ref (a 6)) (C := RX5) (T := TX5) (N := 16) hx_ hb_ hts_ hin_ hown_ hM_.1 hP_ 0 rfl rfl 0 (by decide) (hts_ (.fieldLink RX5 7 "MusicHolesModel" "state" "[I") (by decide +kernel)) (fun _ h9_ => h9_) rfl dX5_count_106 ?_
      refine lv_iload_n hx_ hb_ dX5_count_109 rfl (lv_at hl_ 1 rfl) ?_
      refine lv_bipush (v := jI 7) hx_ hb_ dX5_count_110 (by decide +kernel) ?_
      refine jx_isub hx_ hb_ dX5_count_112 ?_
      refine jx_iald hx_ hb_ hM_ hP_ 6 0 rfl rfl rfl (Nat.le_of_ble_eq_true rfl) h_ dX5_count_113 (fun h_ => ?_)
      exact hE_ _ _ _ _ _ _ _ h_ dX5_count_114 hP_ hD_ hS_
    rw [if_neg csw] at h_
    have csw10 := csw; clear csw
    by_cases csw : x1 = 11
    · rw [if_pos csw] at h_
      refine jx_tabI (tgt := 115) hx_ hb_ hsw_ dX5_count_1 11 csw (by decide) (by decide) (by rfl) (by decide) ?_
      refine lv_aload_n hx_ hb_ dX5_count_115 rfl (lv_at hl_ 0 rfl) ?_
      refine va_get (D := D) (ci := 5) (v := .int (jI pn)) (C := RX5) (T := TX5) (N := 16) hx_ hb_ hts_ hin_ hown_ hM_.1 hP_ 0 rfl rfl 7 (by decide) (hts_ (.fieldLink RX5 145 "MusicHolesModel" "padLength" "I") (by decide +kernel)) (fun _ h9_ => h9_) rfl dX5_count_116 ?_
      exact hE_ _ _ _ _ _ _ _ h_ dX5_count_119 hP_ hD_ hS_
    rw [if_neg csw] at h_
    have csw11 := csw; clear csw
    by_cases csw : x1 = 12
    · rw [if_pos csw] at h_
      refine jx_tabI (tgt := 120) hx_ hb_ hsw_ dX5_count_1 12 csw (by decide) (by decide) (by rfl) (by decide) ?_
      refine lv_aload_n hx_ hb_ dX5_count_120 rfl (lv_at hl_ 0 rfl) ?_
      refine va_get (D := D) (ci := 5) (v := .int (jI rc)) (C := RX5) (T := TX5) (N := 16) hx_ hb_ hts_ hin_ hown_ hM_.1 hP_ 0 rfl rfl 3 (by decide) (hts_ (.fieldLink RX5 37 "MusicHolesModel" "recorded" "I") (by decide +kernel)) (fun _ h9_ => h9_) rfl dX5_count_121 ?_
      exact hE_ _ _ _ _ _ _ _ h_ dX5_count_124 hP_ hD_ hS_
    rw [if_neg csw] at h_
    have csw12 := csw; clear csw
    refine jx_tabO (tgt := 125) hx_ hb_ hsw_ dX5_count_1 (by omega) (by decide) ?_
    refine lv_bipush (v := jI (-2)) hx_ hb_ dX5_count_125 (by decide +kernel) ?_
    exact hE_ _ _ _ _ _ _ _ h_ dX5_count_127 hP_ hD_ hS_
  exact key_ _ (fun v9 ho9 eh9 H locs pc ls h9_ hdg_ hP_ hD_ hS_ => by cases h9_; exact jend_i hx_ hb_ hr_ hlocks_ hP_ hD_ hS_ hdg_)
def rm_X5_bestShift : Room := { frames := 4, cells := 0, slots := 0, locals := 90 }
set_option maxRecDepth 100000 in
set_option maxHeartbeats 8000000 in
theorem c_X5_bestShift (l : Launch) (D : va_G) (y : Nat → ClassId) (z : Nat → Nat) (a : Nat → Nat) (rc : Int) (is_ : Int → Int) (pd : Int → Int) (pn : Int) (ho : Int → Int) (eh : Int → Int) (mv : Int → Int) (at_ : Int) (tk : Int) (fs : Int) (lt : Int) (ea : Int) (stf : Int → Int) (kpf : Int → Int) (hsf : Int → Int) (slf : Int → Int) (x1 : Int) (x2 : Int) (fu : Nat) (rr : Int) (q_ho : Int → Int) (q_stf : Int → Int) (h_ : f_X5_bestShift fu ho stf x1 x2 = some (rr, q_ho, q_stf)) : jCI l D y z yX5_bestShift wsX5_bestShift rm_X5_bestShift [.ref (a 0), .int (jI x1), .int (jI x2)] [(wMo y a rc is_ pd pn ho eh mv at_ tk fs lt ea), (wAr y (a 6) 205 stf), (wAr y (a 7) 205 kpf), (wAr y (a 8) 1230 hsf), (wAr y (a 9) 410 slf)] [(wMo y a rc is_ pd pn q_ho eh mv at_ tk fs lt ea), (wAr y (a 6) 205 q_stf), (wAr y (a 7) 205 kpf), (wAr y (a 8) 1230 hsf), (wAr y (a 9) 410 slf)] rr := by
  intro sz
  refine jmet (Qc := (fun A => va_Qi (fun v (_ : Unit) => v = jI rr) (jB D A [(wMo y a rc is_ pd pn q_ho eh mv at_ tk fs lt ea), (wAr y (a 6) 205 q_stf), (wAr y (a 7) 205 kpf), (wAr y (a 8) 1230 hsf), (wAr y (a 9) 410 slf)]) A)) (cc := cX5_bestShift) (maxL := 8) (ret := (some .int)) (own := RX5) (by decide) rfl (Nat.le_of_ble_eq_true rfl) rfl (fun p e s m R args below meth c A ls hR_ hargs_ hx_ hb_ hr_ hlocks_ hml_ hown_ hts_ hname_ hsz_ hP_ hD_ hA_ hM_ hl_ => ?_)
  have key_ : ∀ Q : State → Prop, (∀ (v9 : Int) (ho9 : Int → Int) (stf9 : Int → Int) (H : Heap) (locs : List Loc) (pc : Nat) (ls : Array Slot), some (v9, ho9, stf9) = some (rr, q_ho, q_stf) → decode cX5_bestShift pc = .ok (.ireturn, 1) → va_P D vwCl [(wMo y a rc is_ pd pn ho9 eh mv at_ tk fs lt ea), (wAr y (a 6) 205 stf9), (wAr y (a 7) 205 kpf), (wAr y (a 8) 1230 hsf), (wAr y (a 9) 410 slf)].flatten H → va_D A [(wMo y a rc is_ pd pn ho9 eh mv at_ tk fs lt ea), (wAr y (a 6) 205 stf9), (wAr y (a 7) 205 kpf), (wAr y (a 8) 1230 hsf), (wAr y (a 9) 410 slf)].flatten → va_S A s.heap H locs → W p l e R s m args below meth c H locs 0 0 Q (F0 m pc ls [.int (jI v9)])) → W p l e R s m args below meth c s.heap [] 0 0 Q (F0 m 0 ls []) := by
    intro Q hE_
    have hS_ : va_S A s.heap s.heap [] := va_S.rf
    have hl_ : lv_has ls 8 [(0, .ref (a 0)), (1, .int (jI x1)), (2, .int (jI x2))] := hl_
    have hin_ : ∀ w ∈ u_ws RX5 TX5 16, w ∈ wsX5_bestShift := by decide +kernel
    unfold f_X5_bestShift at h_
    refine lv_aload_n hx_ hb_ dX5_bestShift_0 rfl (lv_at hl_ 0 rfl) ?_
    refine lv_iload_n hx_ hb_ dX5_bestShift_1 rfl (lv_at hl_ 1 rfl) ?_
    obtain ⟨v1, hv1, h_⟩ := jb_i h_
    refine jx_cvi (wr := []) (cw := [(wMo y a rc is_ pd pn ho eh mv at_ tk fs lt ea), (wAr y (a 6) 205 stf), (wAr y (a 7) 205 kpf), (wAr y (a 8) 1230 hsf), (wAr y (a 9) 410 slf)]) (cw1 := [(wMo y a rc is_ pd pn ho eh mv at_ tk fs lt ea), (wAr y (a 6) 205 stf), (wAr y (a 7) 205 kpf), (wAr y (a 8) 1230 hsf), (wAr y (a 9) 410 slf)]) (cs1 := [(wMo y a rc is_ pd pn ho eh mv at_ tk fs lt ea), (wAr y (a 6) 205 stf), (wAr y (a 7) 205 kpf), (wAr y (a 8) 1230 hsf), (wAr y (a 9) 410 slf)]) (As := [.int (jI x1)]) (rest := []) ⟨hx_, hb_, hml_, hown_, hts_⟩ hM_ hP_ hD_ hS_ hA_ (List.Perm.refl _) (List.Perm.refl _) (c_X5_isNote l D y z a rc is_ pd pn ho eh mv at_ tk fs lt ea stf kpf hsf slf x1 fu v1 hv1) 1 gX5_bestShift_X5_isNote rfl ⟨rfl, rfl⟩ (by decide +kernel) ⟨by rw [hR_]; exact Nat.le_of_ble_eq_true rfl, by rw [hR_]; exact Nat.le_of_ble_eq_true rfl⟩ 0 5 rfl rfl rfl rfl rfl hl_.1 (Nat.le_of_ble_eq_true rfl) dX5_bestShift_2 ⟨Nat.zero_le _, Nat.zero_le _⟩ (fun H locs hP_ hD_ hS_ => ?_)
    have hJ17 : ∀  (H : Heap) (locs : List Loc) (ls : Array Slot), f_X5_bestShift_J17 fu ho stf x1 = some (rr, q_ho, q_stf) → va_P D vwCl [(wMo y a rc is_ pd pn ho eh mv at_ tk fs lt ea), (wAr y (a 6) 205 stf), (wAr y (a 7) 205 kpf), (wAr y (a 8) 1230 hsf), (wAr y (a 9) 410 slf)].flatten H → va_D A [(wMo y a rc is_ pd pn ho eh mv at_ tk fs lt ea), (wAr y (a 6) 205 stf), (wAr y (a 7) 205 kpf), (wAr y (a 8) 1230 hsf), (wAr y (a 9) 410 slf)].flatten → va_S A s.heap H locs → lv_has ls 8 [(0, .ref (a 0)), (1, .int (jI x1))] → W p l e R s m args below meth c H locs 0 0 Q (F0 m 17 ls []) := by
      intro  H locs ls h_ hP_ hD_ hS_ hl_
      unfold f_X5_bestShift_J17 at h_
      refine lv_aload_n hx_ hb_ dX5_bestShift_17 rfl (lv_at hl_ 0 rfl) ?_
      refine lv_iload_n hx_ hb_ dX5_bestShift_18 rfl (lv_at hl_ 1 rfl) ?_
      obtain ⟨v2, hv2, h_⟩ := jb_i h_
      refine jx_cvi (wr := []) (cw := [(wMo y a rc is_ pd pn ho eh mv at_ tk fs lt ea), (wAr y (a 6) 205 stf), (wAr y (a 7) 205 kpf), (wAr y (a 8) 1230 hsf), (wAr y (a 9) 410 slf)]) (cw1 := [(wMo y a rc is_ pd pn ho eh mv at_ tk fs lt ea), (wAr y (a 6) 205 stf), (wAr y (a 7) 205 kpf), (wAr y (a 8) 1230 hsf), (wAr y (a 9) 410 slf)]) (cs1 := [(wMo y a rc is_ pd pn ho eh mv at_ tk fs lt ea), (wAr y (a 6) 205 stf), (wAr y (a 7) 205 kpf), (wAr y (a 8) 1230 hsf), (wAr y (a 9) 410 slf)]) (As := [.int (jI x1)]) (rest := []) ⟨hx_, hb_, hml_, hown_, hts_⟩ hM_ hP_ hD_ hS_ hA_ (List.Perm.refl _) (List.Perm.refl _) (c_X5_isNote l D y z a rc is_ pd pn ho eh mv at_ tk fs lt ea stf kpf hsf slf x1 fu v2 hv2) 1 gX5_bestShift_X5_isNote rfl ⟨rfl, rfl⟩ (by decide +kernel) ⟨by rw [hR_]; exact Nat.le_of_ble_eq_true rfl, by rw [hR_]; exact Nat.le_of_ble_eq_true rfl⟩ 0 5 rfl rfl rfl rfl rfl hl_.1 (Nat.le_of_ble_eq_true rfl) dX5_bestShift_19 ⟨Nat.zero_le _, Nat.zero_le _⟩ (fun H locs hP_ hD_ hS_ => ?_)
      refine jx_if_eq (tgt := 30) hx_ hb_ h_ dX5_bestShift_22 (by decide) (fun h_ => ?_) (fun h_ => ?_)
      · refine lv_iconst (v := jI (-1)) hx_ hb_ dX5_bestShift_30 (by decide +kernel) ?_
        exact hE_ _ _ _ _ _ _ _ h_ dX5_bestShift_31 hP_ hD_ hS_
      · refine lv_bipush (v := jI (-2)) hx_ hb_ dX5_bestShift_25 (by decide +kernel) ?_
        refine lv_goto (tgt := 31) hx_ hb_ dX5_bestShift_27 (by decide) ?_
        exact hE_ _ _ _ _ _ _ _ h_ dX5_bestShift_31 hP_ hD_ hS_
    refine jx_if_eq (tgt := 17) hx_ hb_ h_ dX5_bestShift_5 (by decide) (fun h_ => ?_) (fun h_ => ?_)
    · exact hJ17  _ _ ls h_ hP_ hD_ hS_ (lv_sub hl_ [0, 1] rfl)
    · refine lv_iload_n hx_ hb_ dX5_bestShift_8 rfl (lv_at hl_ 2 rfl) ?_
      refine lv_iconst (v := jI 0) hx_ hb_ dX5_bestShift_9 (by decide +kernel) ?_
      refine lv_iconst (v := jI 1) hx_ hb_ dX5_bestShift_10 (by decide +kernel) ?_
      obtain ⟨v3, hv3, h_⟩ := jb_i h_
      refine jx_csi (b := 0) (C := "") (wr := [(wMo y a rc is_ pd pn ho eh mv at_ tk fs lt ea), (wAr y (a 6) 205 stf), (wAr y (a 7) 205 kpf), (wAr y (a 8) 1230 hsf), (wAr y (a 9) 410 slf)]) (cw := []) (cw1 := []) (cs1 := [(wMo y a rc is_ pd pn ho eh mv at_ tk fs lt ea), (wAr y (a 6) 205 stf), (wAr y (a 7) 205 kpf), (wAr y (a 8) 1230 hsf), (wAr y (a 9) 410 slf)]) (As := [.int (jI x2), .int (jI 0), .int (jI 1)]) (rest := []) ⟨hx_, hb_, hml_, hown_, hts_⟩ hM_ hP_ hD_ hS_ hA_ (List.Perm.of_eq (List.append_nil _).symm) (List.Perm.of_eq (List.append_nil _)) (c_X5_within l D y z x2 0 1 fu v3 hv3) 3 (va_cwS 3 hts_ gX5_bestShift_X5_within rfl rfl rfl (by decide +kernel) ⟨by rw [hR_]; exact Nat.le_of_ble_eq_true rfl, by rw [hR_]; exact Nat.le_of_ble_eq_true rfl⟩) rfl ⟨rfl, rfl⟩ ⟨by rw [hR_]; exact Nat.le_of_ble_eq_true rfl, by rw [hR_]; exact Nat.le_of_ble_eq_true rfl⟩ rfl rfl hl_.1 (Nat.le_of_ble_eq_true rfl) dX5_bestShift_11 ⟨Nat.zero_le _, Nat.zero_le _⟩ (fun H locs hP_ hD_ hS_ => ?_)
      refine jx_if_ne (tgt := 32) hx_ hb_ h_ dX5_bestShift_14 (by decide) (fun h_ => ?_) (fun h_ => ?_)
      · refine lv_aload_n hx_ hb_ dX5_bestShift_32 rfl (lv_at hl_ 0 rfl) ?_
        refine lv_iload_n hx_ hb_ dX5_bestShift_33 rfl (lv_at hl_ 1 rfl) ?_
        refine lv_iconst (v := jI 3) hx_ hb_ dX5_bestShift_34 (by decide +kernel) ?_
        obtain ⟨v4, hv4, h_⟩ := jb_i h_
        refine jx_cvi (wr := []) (cw := [(wMo y a rc is_ pd pn ho eh mv at_ tk fs lt ea), (wAr y (a 6) 205 stf), (wAr y (a 7) 205 kpf), (wAr y (a 8) 1230 hsf), (wAr y (a 9) 410 slf)]) (cw1 := [(wMo y a rc is_ pd pn ho eh mv at_ tk fs lt ea), (wAr y (a 6) 205 stf), (wAr y (a 7) 205 kpf), (wAr y (a 8) 1230 hsf), (wAr y (a 9) 410 slf)]) (cs1 := [(wMo y a rc is_ pd pn ho eh mv at_ tk fs lt ea), (wAr y (a 6) 205 stf), (wAr y (a 7) 205 kpf), (wAr y (a 8) 1230 hsf), (wAr y (a 9) 410 slf)]) (As := [.int (jI x1), .int (jI 3)]) (rest := []) ⟨hx_, hb_, hml_, hown_, hts_⟩ hM_ hP_ hD_ hS_ hA_ (List.Perm.refl _) (List.Perm.refl _) (c_X5_part l D y z a rc is_ pd pn ho eh mv at_ tk fs lt ea stf kpf hsf slf x1 3 fu v4 hv4) 2 gX5_bestShift_X5_part rfl ⟨rfl, rfl⟩ (by decide +kernel) ⟨by rw [hR_]; exact Nat.le_of_ble_eq_true rfl, by rw [hR_]; exact Nat.le_of_ble_eq_true rfl⟩ 0 5 rfl rfl rfl rfl rfl hl_.1 (Nat.le_of_ble_eq_true rfl) dX5_bestShift_35 ⟨Nat.zero_le _, Nat.zero_le _⟩ (fun H locs hP_ hD_ hS_ => ?_)
        refine lv_istore_n (lv' := [(3, .int (jI v4)), (0, .ref (a 0)), (1, .int (jI x1)), (2, .int (jI x2))]) hx_ hb_ dX5_bestShift_38 rfl hl_ (by decide) rfl (fun ls hl_ => ?_)
        refine lv_bipush (v := jI (-6)) hx_ hb_ dX5_bestShift_39 (by decide +kernel) ?_
        refine lv_istore (lv' := [(4, .int (jI (-6))), (3, .int (jI v4)), (0, .ref (a 0)), (1, .int (jI x1)), (2, .int (jI x2))]) hx_ hb_ dX5_bestShift_41 hl_ (by decide) rfl (fun ls hl_ => ?_)
        refine lv_bipush (v := jI 101) hx_ hb_ dX5_bestShift_43 (by decide +kernel) ?_
        refine lv_istore (lv' := [(5, .int (jI 101)), (4, .int (jI (-6))), (3, .int (jI v4)), (0, .ref (a 0)), (1, .int (jI x1)), (2, .int (jI x2))]) hx_ hb_ dX5_bestShift_45 hl_ (by decide) rfl (fun ls hl_ => ?_)
        refine lv_iconst (v := jI 0) hx_ hb_ dX5_bestShift_47 (by decide +kernel) ?_
        refine lv_istore (lv' := [(6, .int (jI 0)), (5, .int (jI 101)), (4, .int (jI (-6))), (3, .int (jI v4)), (0, .ref (a 0)), (1, .int (jI x1)), (2, .int (jI x2))]) hx_ hb_ dX5_bestShift_48 hl_ (by decide) rfl (fun ls hl_ => ?_)
        have hX109 : ∀ (ho_m5 : Int → Int) (stf_m6 : Int → Int) (v7 : Int) (v8 : Int) (H : Heap) (locs : List Loc) (ls : Array Slot), f_X5_bestShift_X109 fu x1 x2 v4 ho_m5 stf_m6 v7 v8 = some (rr, q_ho, q_stf) → va_P D vwCl [(wMo y a rc is_ pd pn ho_m5 eh mv at_ tk fs lt ea), (wAr y (a 6) 205 stf_m6), (wAr y (a 7) 205 kpf), (wAr y (a 8) 1230 hsf), (wAr y (a 9) 410 slf)].flatten H → va_D A [(wMo y a rc is_ pd pn ho_m5 eh mv at_ tk fs lt ea), (wAr y (a 6) 205 stf_m6), (wAr y (a 7) 205 kpf), (wAr y (a 8) 1230 hsf), (wAr y (a 9) 410 slf)].flatten → va_S A s.heap H locs → lv_has ls 8 [(0, .ref (a 0)), (1, .int (jI x1)), (2, .int (jI x2)), (3, .int (jI v4)), (4, .int (jI v7)), (5, .int (jI v8))] → W p l e R s m args below meth c H locs 0 0 Q (F0 m 109 ls []) := by
          intro ho_m5 stf_m6 v7 v8 H locs ls h_ hP_ hD_ hS_ hl_
          unfold f_X5_bestShift_X109 at h_
          refine lv_aload_n hx_ hb_ dX5_bestShift_109 rfl (lv_at hl_ 0 rfl) ?_
          refine lv_iload_n hx_ hb_ dX5_bestShift_110 rfl (lv_at hl_ 1 rfl) ?_
          refine lv_iconst (v := jI 3) hx_ hb_ dX5_bestShift_111 (by decide +kernel) ?_
          refine lv_iload_n hx_ hb_ dX5_bestShift_112 rfl (lv_at hl_ 3 rfl) ?_
          obtain ⟨stf_m9, hstf_m9, h_⟩ := jb_i h_
          refine jx_cvv (rv := 0) (wr := []) (cw := [(wMo y a rc is_ pd pn ho_m5 eh mv at_ tk fs lt ea), (wAr y (a 6) 205 stf_m6), (wAr y (a 7) 205 kpf), (wAr y (a 8) 1230 hsf), (wAr y (a 9) 410 slf)]) (cw1 := [(wMo y a rc is_ pd pn ho_m5 eh mv at_ tk fs lt ea), (wAr y (a 6) 205 stf_m9), (wAr y (a 7) 205 kpf), (wAr y (a 8) 1230 hsf), (wAr y (a 9) 410 slf)]) (cs1 := [(wMo y a rc is_ pd pn ho_m5 eh mv at_ tk fs lt ea), (wAr y (a 6) 205 stf_m9), (wAr y (a 7) 205 kpf), (wAr y (a 8) 1230 hsf), (wAr y (a 9) 410 slf)]) (As := [.int (jI x1), .int (jI 3), .int (jI v4)]) (rest := []) ⟨hx_, hb_, hml_, hown_, hts_⟩ hM_ hP_ hD_ hS_ hA_ (List.Perm.refl _) (List.Perm.refl _) (c_X5_setPart l D y z a rc is_ pd pn ho_m5 eh mv at_ tk fs lt ea stf_m6 kpf hsf slf x1 3 v4 fu stf_m9 hstf_m9) 3 gX5_bestShift_X5_setPart rfl ⟨rfl, rfl⟩ (by decide +kernel) ⟨by rw [hR_]; exact Nat.le_of_ble_eq_true rfl, by rw [hR_]; exact Nat.le_of_ble_eq_true rfl⟩ 0 5 rfl rfl rfl rfl rfl hl_.1 (Nat.le_of_ble_eq_true rfl) dX5_bestShift_113 ⟨Nat.zero_le _, Nat.zero_le _⟩ (fun H locs hP_ hD_ hS_ => ?_)
          refine lv_iload_n hx_ hb_ dX5_bestShift_116 rfl (lv_at hl_ 2 rfl) ?_
          refine jx_if_ne (tgt := 125) hx_ hb_ h_ dX5_bestShift_117 (by decide) (fun h_ => ?_) (fun h_ => ?_)
          · refine lv_iload hx_ hb_ dX5_bestShift_125 (lv_at hl_ 5 rfl) ?_
            exact hE_ _ _ _ _ _ _ _ h_ dX5_bestShift_127 hP_ hD_ hS_
          · refine lv_iload hx_ hb_ dX5_bestShift_120 (lv_at hl_ 4 rfl) ?_
            refine lv_goto (tgt := 127) hx_ hb_ dX5_bestShift_122 (by decide) ?_
            exact hE_ _ _ _ _ _ _ _ h_ dX5_bestShift_127 hP_ hD_ hS_
        have hL50 : ∀ n50 : Nat, ∀ (ho_m10 : Int → Int) (stf_m11 : Int → Int) (v12 : Int) (v13 : Int) (v14 : Int) (H : Heap) (locs : List Loc) (ls : Array Slot), f_X5_bestShift_L50 fu x1 (f_X5_bestShift_X109 fu x1 x2 v4) n50 ho_m10 stf_m11 v12 v13 v14 = some (rr, q_ho, q_stf) → va_P D vwCl [(wMo y a rc is_ pd pn ho_m10 eh mv at_ tk fs lt ea), (wAr y (a 6) 205 stf_m11), (wAr y (a 7) 205 kpf), (wAr y (a 8) 1230 hsf), (wAr y (a 9) 410 slf)].flatten H → va_D A [(wMo y a rc is_ pd pn ho_m10 eh mv at_ tk fs lt ea), (wAr y (a 6) 205 stf_m11), (wAr y (a 7) 205 kpf), (wAr y (a 8) 1230 hsf), (wAr y (a 9) 410 slf)].flatten → va_S A s.heap H locs → lv_has ls 8 [(0, .ref (a 0)), (1, .int (jI x1)), (2, .int (jI x2)), (3, .int (jI v4)), (4, .int (jI v12)), (5, .int (jI v13)), (6, .int (jI v14))] → W p l e R s m args below meth c H locs 0 0 Q (F0 m 50 ls []) := by
          intro n50
          induction n50 with
          | zero => intro _ _ _ _ _ H locs ls h_; have h_ : (none : Option (Int × (Int → Int) × (Int → Int))) = some (rr, q_ho, q_stf) := h_; cases h_
          | succ n50 ih50 =>
            intro ho_m10 stf_m11 v12 v13 v14 H locs ls h_ hP_ hD_ hS_ hl_
            replace h_ : f_X5_bestShift_L50_b fu x1 (f_X5_bestShift_X109 fu x1 x2 v4) (f_X5_bestShift_L50 fu x1 (f_X5_bestShift_X109 fu x1 x2 v4) n50) ho_m10 stf_m11 v12 v13 v14 = some (rr, q_ho, q_stf) := h_
            unfold f_X5_bestShift_L50_b at h_
            refine lv_iload hx_ hb_ dX5_bestShift_50 (lv_at hl_ 6 rfl) ?_
            refine lv_bipush (v := jI 12) hx_ hb_ dX5_bestShift_52 (by decide +kernel) ?_
            refine jx_icmp_gt (tgt := 109) hx_ hb_ h_ dX5_bestShift_54 (by decide) (fun h_ => ?_) (fun h_ => ?_)
            · exact hX109 _ _ _ _ _ _ ls h_ hP_ hD_ hS_ (lv_sub hl_ [0, 1, 2, 3, 4, 5] rfl)
            · refine lv_aload_n hx_ hb_ dX5_bestShift_57 rfl (lv_at hl_ 0 rfl) ?_
              refine lv_iload_n hx_ hb_ dX5_bestShift_58 rfl (lv_at hl_ 1 rfl) ?_
              refine lv_iconst (v := jI 3) hx_ hb_ dX5_bestShift_59 (by decide +kernel) ?_
              refine lv_iload hx_ hb_ dX5_bestShift_60 (lv_at hl_ 6 rfl) ?_
              obtain ⟨stf_m15, hstf_m15, h_⟩ := jb_i h_
              refine jx_cvv (rv := 0) (wr := []) (cw := [(wMo y a rc is_ pd pn ho_m10 eh mv at_ tk fs lt ea), (wAr y (a 6) 205 stf_m11), (wAr y (a 7) 205 kpf), (wAr y (a 8) 1230 hsf), (wAr y (a 9) 410 slf)]) (cw1 := [(wMo y a rc is_ pd pn ho_m10 eh mv at_ tk fs lt ea), (wAr y (a 6) 205 stf_m15), (wAr y (a 7) 205 kpf), (wAr y (a 8) 1230 hsf), (wAr y (a 9) 410 slf)]) (cs1 := [(wMo y a rc is_ pd pn ho_m10 eh mv at_ tk fs lt ea), (wAr y (a 6) 205 stf_m15), (wAr y (a 7) 205 kpf), (wAr y (a 8) 1230 hsf), (wAr y (a 9) 410 slf)]) (As := [.int (jI x1), .int (jI 3), .int (jI v14)]) (rest := []) ⟨hx_, hb_, hml_, hown_, hts_⟩ hM_ hP_ hD_ hS_ hA_ (List.Perm.refl _) (List.Perm.refl _) (c_X5_setPart l D y z a rc is_ pd pn ho_m10 eh mv at_ tk fs lt ea stf_m11 kpf hsf slf x1 3 v14 fu stf_m15 hstf_m15) 3 gX5_bestShift_X5_setPart rfl ⟨rfl, rfl⟩ (by decide +kernel) ⟨by rw [hR_]; exact Nat.le_of_ble_eq_true rfl, by rw [hR_]; exact Nat.le_of_ble_eq_true rfl⟩ 0 5 rfl rfl rfl rfl rfl hl_.1 (Nat.le_of_ble_eq_true rfl) dX5_bestShift_62 ⟨Nat.zero_le _, Nat.zero_le _⟩ (fun H locs hP_ hD_ hS_ => ?_)
              refine lv_aload_n hx_ hb_ dX5_bestShift_65 rfl (lv_at hl_ 0 rfl) ?_
              obtain ⟨v16, ho_m17, hv16, h_⟩ := jb2_i h_
              refine jx_cvi (wr := []) (cw := [(wMo y a rc is_ pd pn ho_m10 eh mv at_ tk fs lt ea), (wAr y (a 6) 205 stf_m15), (wAr y (a 7) 205 kpf), (wAr y (a 8) 1230 hsf), (wAr y (a 9) 410 slf)]) (cw1 := [(wMo y a rc is_ pd pn ho_m17 eh mv at_ tk fs lt ea), (wAr y (a 6) 205 stf_m15), (wAr y (a 7) 205 kpf), (wAr y (a 8) 1230 hsf), (wAr y (a 9) 410 slf)]) (cs1 := [(wMo y a rc is_ pd pn ho_m17 eh mv at_ tk fs lt ea), (wAr y (a 6) 205 stf_m15), (wAr y (a 7) 205 kpf), (wAr y (a 8) 1230 hsf), (wAr y (a 9) 410 slf)]) (As := []) (rest := []) ⟨hx_, hb_, hml_, hown_, hts_⟩ hM_ hP_ hD_ hS_ hA_ (List.Perm.refl _) (List.Perm.refl _) (c_X5_weakMany l D y z a rc is_ pd pn ho_m10 eh mv at_ tk fs lt ea stf_m15 kpf hsf slf fu v16 ho_m17 hv16) 0 gX5_bestShift_X5_weakMany rfl ⟨rfl, rfl⟩ (by decide +kernel) ⟨by rw [hR_]; exact Nat.le_of_ble_eq_true rfl, by rw [hR_]; exact Nat.le_of_ble_eq_true rfl⟩ 0 5 rfl rfl rfl rfl rfl hl_.1 (Nat.le_of_ble_eq_true rfl) dX5_bestShift_66 ⟨Nat.zero_le _, Nat.zero_le _⟩ (fun H locs hP_ hD_ hS_ => ?_)
              refine lv_istore (lv' := [(7, .int (jI v16)), (0, .ref (a 0)), (1, .int (jI x1)), (2, .int (jI x2)), (3, .int (jI v4)), (4, .int (jI v12)), (5, .int (jI v13)), (6, .int (jI v14))]) hx_ hb_ dX5_bestShift_69 hl_ (by decide) rfl (fun ls hl_ => ?_)
              refine lv_iload hx_ hb_ dX5_bestShift_71 (lv_at hl_ 0 rfl) ?_
              refine lv_iload hx_ hb_ dX5_bestShift_73 (lv_at hl_ 6 rfl) ?_
              have hJ85 : ∀ (v18 : Int) (H : Heap) (locs : List Loc) (ls : Array Slot), f_X5_bestShift_J85 fu v13 v14 stf_m15 v16 ho_m17 (f_X5_bestShift_L50 fu x1 (f_X5_bestShift_X109 fu x1 x2 v4) n50) v18 = some (rr, q_ho, q_stf) → va_P D vwCl [(wMo y a rc is_ pd pn ho_m17 eh mv at_ tk fs lt ea), (wAr y (a 6) 205 stf_m15), (wAr y (a 7) 205 kpf), (wAr y (a 8) 1230 hsf), (wAr y (a 9) 410 slf)].flatten H → va_D A [(wMo y a rc is_ pd pn ho_m17 eh mv at_ tk fs lt ea), (wAr y (a 6) 205 stf_m15), (wAr y (a 7) 205 kpf), (wAr y (a 8) 1230 hsf), (wAr y (a 9) 410 slf)].flatten → va_S A s.heap H locs → lv_has ls 8 [(0, .ref (a 0)), (1, .int (jI x1)), (2, .int (jI x2)), (3, .int (jI v4)), (5, .int (jI v13)), (6, .int (jI v14)), (7, .int (jI v16))] → W p l e R s m args below meth c H locs 0 0 Q (F0 m 85 ls [.int (jI v18)]) := by
                intro v18 H locs ls h_ hP_ hD_ hS_ hl_
                unfold f_X5_bestShift_J85 at h_
                refine lv_istore (lv' := [(4, .int (jI v18)), (0, .ref (a 0)), (1, .int (jI x1)), (2, .int (jI x2)), (3, .int (jI v4)), (5, .int (jI v13)), (6, .int (jI v14)), (7, .int (jI v16))]) hx_ hb_ dX5_bestShift_85 hl_ (by decide) rfl (fun ls hl_ => ?_)
                refine lv_iload hx_ hb_ dX5_bestShift_87 (lv_at hl_ 7 rfl) ?_
                refine lv_iload hx_ hb_ dX5_bestShift_89 (lv_at hl_ 5 rfl) ?_
                refine jx_icmp_ge (tgt := 99) hx_ hb_ h_ dX5_bestShift_91 (by decide) (fun h_ => ?_) (fun h_ => ?_)
                · refine lv_iload hx_ hb_ dX5_bestShift_99 (lv_at hl_ 5 rfl) ?_
                  refine lv_istore (lv' := [(5, .int (jI v13)), (4, .int (jI v18)), (0, .ref (a 0)), (1, .int (jI x1)), (2, .int (jI x2)), (3, .int (jI v4)), (6, .int (jI v14)), (7, .int (jI v16))]) hx_ hb_ dX5_bestShift_101 hl_ (by decide) rfl (fun ls hl_ => ?_)
                  refine lv_iinc (v := jI (v14 + 1)) (lv' := [(6, .int (jI (v14 + 1))), (5, .int (jI v13)), (4, .int (jI v18)), (0, .ref (a 0)), (1, .int (jI x1)), (2, .int (jI x2)), (3, .int (jI v4)), (7, .int (jI v16))]) hx_ hb_ dX5_bestShift_103 hl_ (k := 6) rfl (jI_add _ _) (by decide) rfl (fun ls hl_ => ?_)
                  refine lv_goto (tgt := 50) hx_ hb_ dX5_bestShift_106 (by decide) ?_
                  exact ih50 _ _ _ _ _ _ _ ls h_ hP_ hD_ hS_ (lv_sub hl_ [3, 4, 5, 6, 2, 1, 0] rfl)
                · refine lv_iload hx_ hb_ dX5_bestShift_94 (lv_at hl_ 7 rfl) ?_
                  refine lv_goto (tgt := 101) hx_ hb_ dX5_bestShift_96 (by decide) ?_
                  refine lv_istore (lv' := [(5, .int (jI v16)), (4, .int (jI v18)), (0, .ref (a 0)), (1, .int (jI x1)), (2, .int (jI x2)), (3, .int (jI v4)), (6, .int (jI v14)), (7, .int (jI v16))]) hx_ hb_ dX5_bestShift_101 hl_ (by decide) rfl (fun ls hl_ => ?_)
                  refine lv_iinc (v := jI (v14 + 1)) (lv' := [(6, .int (jI (v14 + 1))), (5, .int (jI v16)), (4, .int (jI v18)), (0, .ref (a 0)), (1, .int (jI x1)), (2, .int (jI x2)), (3, .int (jI v4)), (7, .int (jI v16))]) hx_ hb_ dX5_bestShift_103 hl_ (k := 6) rfl (jI_add _ _) (by decide) rfl (fun ls hl_ => ?_)
                  refine lv_goto (tgt := 50) hx_ hb_ dX5_bestShift_106 (by decide) ?_
                  exact ih50 _ _ _ _ _ _ _ ls h_ hP_ hD_ hS_ (lv_sub hl_ [3, 4, 5, 6, 2, 1, 0] rfl)
              refine jx_icmp_ge (tgt := 83) hx_ hb_ h_ dX5_bestShift_75 (by decide) (fun h_ => ?_) (fun h_ => ?_)
              · refine lv_iload hx_ hb_ dX5_bestShift_83 (lv_at hl_ 5 rfl) ?_
                exact hJ85 _ _ _ ls h_ hP_ hD_ hS_ (lv_sub hl_ [1, 2, 3, 4, 6, 7, 0] rfl)
              · refine lv_iload hx_ hb_ dX5_bestShift_78 (lv_at hl_ 7 rfl) ?_
                refine lv_goto (tgt := 85) hx_ hb_ dX5_bestShift_80 (by decide) ?_
                exact hJ85 _ _ _ ls h_ hP_ hD_ hS_ (lv_sub hl_ [1, 2, 3, 4, 6, 7, 0] rfl)
        exact hL50 fu _ _ _ _ _ _ _ ls h_ hP_ hD_ hS_ (lv_sub hl_ [4, 5, 6, 3, 2, 1, 0] rfl)
      · exact hJ17  _ _ ls h_ hP_ hD_ hS_ (lv_sub hl_ [0, 1] rfl)
  exact key_ _ (fun v9 ho9 stf9 H locs pc ls h9_ hdg_ hP_ hD_ hS_ => by cases h9_; exact jend_i hx_ hb_ hr_ hlocks_ hP_ hD_ hS_ hdg_)
def rm_X5_greatestRun : Room := { frames := 4, cells := 0, slots := 0, locals := 90 }
set_option maxRecDepth 100000 in
set_option maxHeartbeats 8000000 in
theorem c_X5_greatestRun (l : Launch) (D : va_G) (y : Nat → ClassId) (z : Nat → Nat) (a : Nat → Nat) (rc : Int) (is_ : Int → Int) (pd : Int → Int) (pn : Int) (ho : Int → Int) (eh : Int → Int) (mv : Int → Int) (at_ : Int) (tk : Int) (fs : Int) (lt : Int) (ea : Int) (stf : Int → Int) (kpf : Int → Int) (hsf : Int → Int) (slf : Int → Int)  (fu : Nat) (rr : Int) (q_ho : Int → Int) (q_stf : Int → Int) (h_ : f_X5_greatestRun fu ho stf = some (rr, q_ho, q_stf)) : jCI l D y z yX5_greatestRun wsX5_greatestRun rm_X5_greatestRun [.ref (a 0)] [(wMo y a rc is_ pd pn ho eh mv at_ tk fs lt ea), (wAr y (a 6) 205 stf), (wAr y (a 7) 205 kpf), (wAr y (a 8) 1230 hsf), (wAr y (a 9) 410 slf)] [(wMo y a rc is_ pd pn q_ho eh mv at_ tk fs lt ea), (wAr y (a 6) 205 q_stf), (wAr y (a 7) 205 kpf), (wAr y (a 8) 1230 hsf), (wAr y (a 9) 410 slf)] rr := by
  intro sz
  refine jmet (Qc := (fun A => va_Qi (fun v (_ : Unit) => v = jI rr) (jB D A [(wMo y a rc is_ pd pn q_ho eh mv at_ tk fs lt ea), (wAr y (a 6) 205 q_stf), (wAr y (a 7) 205 kpf), (wAr y (a 8) 1230 hsf), (wAr y (a 9) 410 slf)]) A)) (cc := cX5_greatestRun) (maxL := 4) (ret := (some .int)) (own := RX5) (by decide) rfl (Nat.le_of_ble_eq_true rfl) rfl (fun p e s m R args below meth c A ls hR_ hargs_ hx_ hb_ hr_ hlocks_ hml_ hown_ hts_ hname_ hsz_ hP_ hD_ hA_ hM_ hl_ => ?_)
  have key_ : ∀ Q : State → Prop, (∀ (v9 : Int) (ho9 : Int → Int) (stf9 : Int → Int) (H : Heap) (locs : List Loc) (pc : Nat) (ls : Array Slot), some (v9, ho9, stf9) = some (rr, q_ho, q_stf) → decode cX5_greatestRun pc = .ok (.ireturn, 1) → va_P D vwCl [(wMo y a rc is_ pd pn ho9 eh mv at_ tk fs lt ea), (wAr y (a 6) 205 stf9), (wAr y (a 7) 205 kpf), (wAr y (a 8) 1230 hsf), (wAr y (a 9) 410 slf)].flatten H → va_D A [(wMo y a rc is_ pd pn ho9 eh mv at_ tk fs lt ea), (wAr y (a 6) 205 stf9), (wAr y (a 7) 205 kpf), (wAr y (a 8) 1230 hsf), (wAr y (a 9) 410 slf)].flatten → va_S A s.heap H locs → W p l e R s m args below meth c H locs 0 0 Q (F0 m pc ls [.int (jI v9)])) → W p l e R s m args below meth c s.heap [] 0 0 Q (F0 m 0 ls []) := by
    intro Q hE_
    have hS_ : va_S A s.heap s.heap [] := va_S.rf
    have hl_ : lv_has ls 4 [(0, .ref (a 0))] := hl_
    have hin_ : ∀ w ∈ u_ws RX5 TX5 16, w ∈ wsX5_greatestRun := by decide +kernel
    unfold f_X5_greatestRun at h_
    refine lv_aload_n hx_ hb_ dX5_greatestRun_0 rfl (lv_at hl_ 0 rfl) ?_
    refine va_get (D := D) (ci := 5) (v := .ref (a 6)) (C := RX5) (T := TX5) (N := 16) hx_ hb_ hts_ hin_ hown_ hM_.1 hP_ 0 rfl rfl 0 (by decide) (hts_ (.fieldLink RX5 7 "MusicHolesModel" "state" "[I") (by decide +kernel)) (fun _ h9_ => h9_) rfl dX5_greatestRun_1 ?_
    refine lv_iconst (v := jI 0) hx_ hb_ dX5_greatestRun_4 (by decide +kernel) ?_
    refine jx_iald hx_ hb_ hM_ hP_ 6 0 rfl rfl rfl (Nat.le_of_ble_eq_true rfl) h_ dX5_greatestRun_5 (fun h_ => ?_)
    refine lv_istore_n (lv' := [(1, .int (jI (stf 0))), (0, .ref (a 0))]) hx_ hb_ dX5_greatestRun_6 rfl hl_ (by decide) rfl (fun ls hl_ => ?_)
    refine lv_bipush (v := jI (-6)) hx_ hb_ dX5_greatestRun_7 (by decide +kernel) ?_
    refine lv_istore_n (lv' := [(2, .int (jI (-6))), (1, .int (jI (stf 0))), (0, .ref (a 0))]) hx_ hb_ dX5_greatestRun_9 rfl hl_ (by decide) rfl (fun ls hl_ => ?_)
    refine lv_iconst (v := jI 1) hx_ hb_ dX5_greatestRun_10 (by decide +kernel) ?_
    refine lv_istore_n (lv' := [(3, .int (jI 1)), (2, .int (jI (-6))), (1, .int (jI (stf 0))), (0, .ref (a 0))]) hx_ hb_ dX5_greatestRun_11 rfl hl_ (by decide) rfl (fun ls hl_ => ?_)
    have hX44 : ∀ (ho_m1 : Int → Int) (stf_m2 : Int → Int) (v3 : Int) (v4 : Int) (H : Heap) (locs : List Loc) (ls : Array Slot), f_X5_greatestRun_X44 fu ho_m1 stf_m2 v3 v4 = some (rr, q_ho, q_stf) → va_P D vwCl [(wMo y a rc is_ pd pn ho_m1 eh mv at_ tk fs lt ea), (wAr y (a 6) 205 stf_m2), (wAr y (a 7) 205 kpf), (wAr y (a 8) 1230 hsf), (wAr y (a 9) 410 slf)].flatten H → va_D A [(wMo y a rc is_ pd pn ho_m1 eh mv at_ tk fs lt ea), (wAr y (a 6) 205 stf_m2), (wAr y (a 7) 205 kpf), (wAr y (a 8) 1230 hsf), (wAr y (a 9) 410 slf)].flatten → va_S A s.heap H locs → lv_has ls 4 [(0, .ref (a 0)), (1, .int (jI v3)), (2, .int (jI v4))] → W p l e R s m args below meth c H locs 0 0 Q (F0 m 44 ls []) := by
      intro ho_m1 stf_m2 v3 v4 H locs ls h_ hP_ hD_ hS_ hl_
      unfold f_X5_greatestRun_X44 at h_
      refine lv_aload_n hx_ hb_ dX5_greatestRun_44 rfl (lv_at hl_ 0 rfl) ?_
      refine va_get (D := D) (ci := 5) (v := .ref (a 6)) (C := RX5) (T := TX5) (N := 16) hx_ hb_ hts_ hin_ hown_ hM_.1 hP_ 0 rfl rfl 0 (by decide) (hts_ (.fieldLink RX5 7 "MusicHolesModel" "state" "[I") (by decide +kernel)) (fun _ h9_ => h9_) rfl dX5_greatestRun_45 ?_
      refine lv_iconst (v := jI 0) hx_ hb_ dX5_greatestRun_48 (by decide +kernel) ?_
      refine lv_iload_n hx_ hb_ dX5_greatestRun_49 rfl (lv_at hl_ 1 rfl) ?_
      refine jx_iast hx_ hb_ hM_ hP_ hD_ hS_ 6 0 rfl rfl rfl (Nat.le_of_ble_eq_true rfl) h_ dX5_greatestRun_50 (fun H locs h_ hP_ hD_ hS_ => ?_)
      have hP_ : va_P D vwCl [(wMo y a rc is_ pd pn ho_m1 eh mv at_ tk fs lt ea), (wAr y (a 6) 205 (uI stf_m2 0 v3)), (wAr y (a 7) 205 kpf), (wAr y (a 8) 1230 hsf), (wAr y (a 9) 410 slf)].flatten H := hP_
      have hD_ : va_D A [(wMo y a rc is_ pd pn ho_m1 eh mv at_ tk fs lt ea), (wAr y (a 6) 205 (uI stf_m2 0 v3)), (wAr y (a 7) 205 kpf), (wAr y (a 8) 1230 hsf), (wAr y (a 9) 410 slf)].flatten := hD_
      refine lv_iload_n hx_ hb_ dX5_greatestRun_51 rfl (lv_at hl_ 2 rfl) ?_
      exact hE_ _ _ _ _ _ _ _ h_ dX5_greatestRun_52 hP_ hD_ hS_
    have hL12 : ∀ n12 : Nat, ∀ (ho_m5 : Int → Int) (stf_m6 : Int → Int) (v7 : Int) (v8 : Int) (v9 : Int) (H : Heap) (locs : List Loc) (ls : Array Slot), f_X5_greatestRun_L12 fu (f_X5_greatestRun_X44 fu) n12 ho_m5 stf_m6 v7 v8 v9 = some (rr, q_ho, q_stf) → va_P D vwCl [(wMo y a rc is_ pd pn ho_m5 eh mv at_ tk fs lt ea), (wAr y (a 6) 205 stf_m6), (wAr y (a 7) 205 kpf), (wAr y (a 8) 1230 hsf), (wAr y (a 9) 410 slf)].flatten H → va_D A [(wMo y a rc is_ pd pn ho_m5 eh mv at_ tk fs lt ea), (wAr y (a 6) 205 stf_m6), (wAr y (a 7) 205 kpf), (wAr y (a 8) 1230 hsf), (wAr y (a 9) 410 slf)].flatten → va_S A s.heap H locs → lv_has ls 4 [(0, .ref (a 0)), (1, .int (jI v7)), (2, .int (jI v8)), (3, .int (jI v9))] → W p l e R s m args below meth c H locs 0 0 Q (F0 m 12 ls []) := by
      intro n12
      induction n12 with
      | zero => intro _ _ _ _ _ H locs ls h_; have h_ : (none : Option (Int × (Int → Int) × (Int → Int))) = some (rr, q_ho, q_stf) := h_; cases h_
      | succ n12 ih12 =>
        intro ho_m5 stf_m6 v7 v8 v9 H locs ls h_ hP_ hD_ hS_ hl_
        replace h_ : f_X5_greatestRun_L12_b fu (f_X5_greatestRun_X44 fu) (f_X5_greatestRun_L12 fu (f_X5_greatestRun_X44 fu) n12) ho_m5 stf_m6 v7 v8 v9 = some (rr, q_ho, q_stf) := h_
        unfold f_X5_greatestRun_L12_b at h_
        refine lv_iload_n hx_ hb_ dX5_greatestRun_12 rfl (lv_at hl_ 3 rfl) ?_
        refine lv_bipush (v := jI 9) hx_ hb_ dX5_greatestRun_13 (by decide +kernel) ?_
        refine jx_icmp_gt (tgt := 44) hx_ hb_ h_ dX5_greatestRun_15 (by decide) (fun h_ => ?_) (fun h_ => ?_)
        · exact hX44 _ _ _ _ _ _ ls h_ hP_ hD_ hS_ (lv_sub hl_ [0, 1, 2] rfl)
        · refine lv_aload_n hx_ hb_ dX5_greatestRun_18 rfl (lv_at hl_ 0 rfl) ?_
          refine va_get (D := D) (ci := 5) (v := .ref (a 6)) (C := RX5) (T := TX5) (N := 16) hx_ hb_ hts_ hin_ hown_ hM_.1 hP_ 0 rfl rfl 0 (by decide) (hts_ (.fieldLink RX5 7 "MusicHolesModel" "state" "[I") (by decide +kernel)) (fun _ h9_ => h9_) rfl dX5_greatestRun_19 ?_
          refine lv_iconst (v := jI 0) hx_ hb_ dX5_greatestRun_22 (by decide +kernel) ?_
          refine lv_iload_n hx_ hb_ dX5_greatestRun_23 rfl (lv_at hl_ 3 rfl) ?_
          refine jx_iast hx_ hb_ hM_ hP_ hD_ hS_ 6 0 rfl rfl rfl (Nat.le_of_ble_eq_true rfl) h_ dX5_greatestRun_24 (fun H locs h_ hP_ hD_ hS_ => ?_)
          have hP_ : va_P D vwCl [(wMo y a rc is_ pd pn ho_m5 eh mv at_ tk fs lt ea), (wAr y (a 6) 205 (uI stf_m6 0 v9)), (wAr y (a 7) 205 kpf), (wAr y (a 8) 1230 hsf), (wAr y (a 9) 410 slf)].flatten H := hP_
          have hD_ : va_D A [(wMo y a rc is_ pd pn ho_m5 eh mv at_ tk fs lt ea), (wAr y (a 6) 205 (uI stf_m6 0 v9)), (wAr y (a 7) 205 kpf), (wAr y (a 8) 1230 hsf), (wAr y (a 9) 410 slf)].flatten := hD_
          refine lv_aload_n hx_ hb_ dX5_greatestRun_25 rfl (lv_at hl_ 0 rfl) ?_
          obtain ⟨v10, ho_m11, hv10, h_⟩ := jb2_i h_
          refine jx_cvi (wr := []) (cw := [(wMo y a rc is_ pd pn ho_m5 eh mv at_ tk fs lt ea), (wAr y (a 6) 205 (uI stf_m6 0 v9)), (wAr y (a 7) 205 kpf), (wAr y (a 8) 1230 hsf), (wAr y (a 9) 410 slf)]) (cw1 := [(wMo y a rc is_ pd pn ho_m11 eh mv at_ tk fs lt ea), (wAr y (a 6) 205 (uI stf_m6 0 v9)), (wAr y (a 7) 205 kpf), (wAr y (a 8) 1230 hsf), (wAr y (a 9) 410 slf)]) (cs1 := [(wMo y a rc is_ pd pn ho_m11 eh mv at_ tk fs lt ea), (wAr y (a 6) 205 (uI stf_m6 0 v9)), (wAr y (a 7) 205 kpf), (wAr y (a 8) 1230 hsf), (wAr y (a 9) 410 slf)]) (As := []) (rest := []) ⟨hx_, hb_, hml_, hown_, hts_⟩ hM_ hP_ hD_ hS_ hA_ (List.Perm.refl _) (List.Perm.refl _) (c_X5_weakMany l D y z a rc is_ pd pn ho_m5 eh mv at_ tk fs lt ea (uI stf_m6 0 v9) kpf hsf slf fu v10 ho_m11 hv10) 0 gX5_greatestRun_X5_weakMany rfl ⟨rfl, rfl⟩ (by decide +kernel) ⟨by rw [hR_]; exact Nat.le_of_ble_eq_true rfl, by rw [hR_]; exact Nat.le_of_ble_eq_true rfl⟩ 0 5 rfl rfl rfl rfl rfl hl_.1 (Nat.le_of_ble_eq_true rfl) dX5_greatestRun_26 ⟨Nat.zero_le _, Nat.zero_le _⟩ (fun H locs hP_ hD_ hS_ => ?_)
          refine jx_if_ne (tgt := 36) hx_ hb_ h_ dX5_greatestRun_29 (by decide) (fun h_ => ?_) (fun h_ => ?_)
          · refine lv_iload_n hx_ hb_ dX5_greatestRun_36 rfl (lv_at hl_ 2 rfl) ?_
            refine lv_istore_n (lv' := [(2, .int (jI v8)), (0, .ref (a 0)), (1, .int (jI v7)), (3, .int (jI v9))]) hx_ hb_ dX5_greatestRun_37 rfl hl_ (by decide) rfl (fun ls hl_ => ?_)
            refine lv_iinc (v := jI (v9 + 1)) (lv' := [(3, .int (jI (v9 + 1))), (2, .int (jI v8)), (0, .ref (a 0)), (1, .int (jI v7))]) hx_ hb_ dX5_greatestRun_38 hl_ (k := 3) rfl (jI_add _ _) (by decide) rfl (fun ls hl_ => ?_)
            refine lv_goto (tgt := 12) hx_ hb_ dX5_greatestRun_41 (by decide) ?_
            exact ih12 _ _ _ _ _ _ _ ls h_ hP_ hD_ hS_ (lv_sub hl_ [2, 3, 1, 0] rfl)
          · refine lv_iload_n hx_ hb_ dX5_greatestRun_32 rfl (lv_at hl_ 3 rfl) ?_
            refine lv_goto (tgt := 37) hx_ hb_ dX5_greatestRun_33 (by decide) ?_
            refine lv_istore_n (lv' := [(2, .int (jI v9)), (0, .ref (a 0)), (1, .int (jI v7)), (3, .int (jI v9))]) hx_ hb_ dX5_greatestRun_37 rfl hl_ (by decide) rfl (fun ls hl_ => ?_)
            refine lv_iinc (v := jI (v9 + 1)) (lv' := [(3, .int (jI (v9 + 1))), (2, .int (jI v9)), (0, .ref (a 0)), (1, .int (jI v7))]) hx_ hb_ dX5_greatestRun_38 hl_ (k := 3) rfl (jI_add _ _) (by decide) rfl (fun ls hl_ => ?_)
            refine lv_goto (tgt := 12) hx_ hb_ dX5_greatestRun_41 (by decide) ?_
            exact ih12 _ _ _ _ _ _ _ ls h_ hP_ hD_ hS_ (lv_sub hl_ [2, 3, 1, 0] rfl)
    exact hL12 fu _ _ _ _ _ _ _ ls h_ hP_ hD_ hS_ (lv_sub hl_ [3, 2, 1, 0] rfl)
  exact key_ _ (fun v9 ho9 stf9 H locs pc ls h9_ hdg_ hP_ hD_ hS_ => by cases h9_; exact jend_i hx_ hb_ hr_ hlocks_ hP_ hD_ hS_ hdg_)
def rm_X5_swallowed : Room := { frames := 4, cells := 0, slots := 0, locals := 90 }
set_option maxRecDepth 100000 in
set_option maxHeartbeats 8000000 in
theorem c_X5_swallowed (l : Launch) (D : va_G) (y : Nat → ClassId) (z : Nat → Nat) (a : Nat → Nat) (rc : Int) (is_ : Int → Int) (pd : Int → Int) (pn : Int) (ho : Int → Int) (eh : Int → Int) (mv : Int → Int) (at_ : Int) (tk : Int) (fs : Int) (lt : Int) (ea : Int) (stf : Int → Int) (kpf : Int → Int) (hsf : Int → Int) (slf : Int → Int) (x1 : Int) (fu : Nat) (rr : Int) (q_ho : Int → Int) (q_eh : Int → Int) (h_ : f_X5_swallowed fu ho eh stf x1 = some (rr, q_ho, q_eh)) : jCI l D y z yX5_swallowed wsX5_swallowed rm_X5_swallowed [.ref (a 0), .int (jI x1)] [(wMo y a rc is_ pd pn ho eh mv at_ tk fs lt ea), (wAr y (a 6) 205 stf), (wAr y (a 7) 205 kpf), (wAr y (a 8) 1230 hsf), (wAr y (a 9) 410 slf)] [(wMo y a rc is_ pd pn q_ho q_eh mv at_ tk fs lt ea), (wAr y (a 6) 205 stf), (wAr y (a 7) 205 kpf), (wAr y (a 8) 1230 hsf), (wAr y (a 9) 410 slf)] rr := by
  intro sz
  refine jmet (Qc := (fun A => va_Qi (fun v (_ : Unit) => v = jI rr) (jB D A [(wMo y a rc is_ pd pn q_ho q_eh mv at_ tk fs lt ea), (wAr y (a 6) 205 stf), (wAr y (a 7) 205 kpf), (wAr y (a 8) 1230 hsf), (wAr y (a 9) 410 slf)]) A)) (cc := cX5_swallowed) (maxL := 4) (ret := (some .int)) (own := RX5) (by decide) rfl (Nat.le_of_ble_eq_true rfl) rfl (fun p e s m R args below meth c A ls hR_ hargs_ hx_ hb_ hr_ hlocks_ hml_ hown_ hts_ hname_ hsz_ hP_ hD_ hA_ hM_ hl_ => ?_)
  have key_ : ∀ Q : State → Prop, (∀ (v9 : Int) (ho9 : Int → Int) (eh9 : Int → Int) (H : Heap) (locs : List Loc) (pc : Nat) (ls : Array Slot), some (v9, ho9, eh9) = some (rr, q_ho, q_eh) → decode cX5_swallowed pc = .ok (.ireturn, 1) → va_P D vwCl [(wMo y a rc is_ pd pn ho9 eh9 mv at_ tk fs lt ea), (wAr y (a 6) 205 stf), (wAr y (a 7) 205 kpf), (wAr y (a 8) 1230 hsf), (wAr y (a 9) 410 slf)].flatten H → va_D A [(wMo y a rc is_ pd pn ho9 eh9 mv at_ tk fs lt ea), (wAr y (a 6) 205 stf), (wAr y (a 7) 205 kpf), (wAr y (a 8) 1230 hsf), (wAr y (a 9) 410 slf)].flatten → va_S A s.heap H locs → W p l e R s m args below meth c H locs 0 0 Q (F0 m pc ls [.int (jI v9)])) → W p l e R s m args below meth c s.heap [] 0 0 Q (F0 m 0 ls []) := by
    intro Q hE_
    have hS_ : va_S A s.heap s.heap [] := va_S.rf
    have hl_ : lv_has ls 4 [(0, .ref (a 0)), (1, .int (jI x1))] := hl_
    have hin_ : ∀ w ∈ u_ws RX5 TX5 16, w ∈ wsX5_swallowed := by decide +kernel
    unfold f_X5_swallowed at h_
    refine lv_iload_n hx_ hb_ dX5_swallowed_0 rfl (lv_at hl_ 1 rfl) ?_
    obtain ⟨v1, hv1, h_⟩ := jb_i h_
    refine jx_csi (b := 0) (C := "") (wr := [(wMo y a rc is_ pd pn ho eh mv at_ tk fs lt ea), (wAr y (a 6) 205 stf), (wAr y (a 7) 205 kpf), (wAr y (a 8) 1230 hsf), (wAr y (a 9) 410 slf)]) (cw := []) (cw1 := []) (cs1 := [(wMo y a rc is_ pd pn ho eh mv at_ tk fs lt ea), (wAr y (a 6) 205 stf), (wAr y (a 7) 205 kpf), (wAr y (a 8) 1230 hsf), (wAr y (a 9) 410 slf)]) (As := [.int (jI x1)]) (rest := []) ⟨hx_, hb_, hml_, hown_, hts_⟩ hM_ hP_ hD_ hS_ hA_ (List.Perm.of_eq (List.append_nil _).symm) (List.Perm.of_eq (List.append_nil _)) (c_X5_isTrack l D y z x1 fu v1 hv1) 1 (va_cwS 1 hts_ gX5_swallowed_X5_isTrack rfl rfl rfl (by decide +kernel) ⟨by rw [hR_]; exact Nat.le_of_ble_eq_true rfl, by rw [hR_]; exact Nat.le_of_ble_eq_true rfl⟩) rfl ⟨rfl, rfl⟩ ⟨by rw [hR_]; exact Nat.le_of_ble_eq_true rfl, by rw [hR_]; exact Nat.le_of_ble_eq_true rfl⟩ rfl rfl hl_.1 (Nat.le_of_ble_eq_true rfl) dX5_swallowed_1 ⟨Nat.zero_le _, Nat.zero_le _⟩ (fun H locs hP_ hD_ hS_ => ?_)
    refine jx_if_ne (tgt := 9) hx_ hb_ h_ dX5_swallowed_4 (by decide) (fun h_ => ?_) (fun h_ => ?_)
    · refine lv_aload_n hx_ hb_ dX5_swallowed_9 rfl (lv_at hl_ 0 rfl) ?_
      obtain ⟨ho_m2, eh_m3, hho_m2, h_⟩ := jb2_i h_
      refine jx_cvv (rv := 0) (wr := []) (cw := [(wMo y a rc is_ pd pn ho eh mv at_ tk fs lt ea), (wAr y (a 6) 205 stf), (wAr y (a 7) 205 kpf), (wAr y (a 8) 1230 hsf), (wAr y (a 9) 410 slf)]) (cw1 := [(wMo y a rc is_ pd pn ho_m2 eh_m3 mv at_ tk fs lt ea), (wAr y (a 6) 205 stf), (wAr y (a 7) 205 kpf), (wAr y (a 8) 1230 hsf), (wAr y (a 9) 410 slf)]) (cs1 := [(wMo y a rc is_ pd pn ho_m2 eh_m3 mv at_ tk fs lt ea), (wAr y (a 6) 205 stf), (wAr y (a 7) 205 kpf), (wAr y (a 8) 1230 hsf), (wAr y (a 9) 410 slf)]) (As := []) (rest := []) ⟨hx_, hb_, hml_, hown_, hts_⟩ hM_ hP_ hD_ hS_ hA_ (List.Perm.refl _) (List.Perm.refl _) (c_X5_findHeard l D y z a rc is_ pd pn ho eh mv at_ tk fs lt ea stf kpf hsf slf fu ho_m2 eh_m3 hho_m2) 0 gX5_swallowed_X5_findHeard rfl ⟨rfl, rfl⟩ (by decide +kernel) ⟨by rw [hR_]; exact Nat.le_of_ble_eq_true rfl, by rw [hR_]; exact Nat.le_of_ble_eq_true rfl⟩ 0 5 rfl rfl rfl rfl rfl hl_.1 (Nat.le_of_ble_eq_true rfl) dX5_swallowed_10 ⟨Nat.zero_le _, Nat.zero_le _⟩ (fun H locs hP_ hD_ hS_ => ?_)
      refine lv_iconst (v := jI 0) hx_ hb_ dX5_swallowed_13 (by decide +kernel) ?_
      refine lv_istore_n (lv' := [(2, .int (jI 0)), (0, .ref (a 0)), (1, .int (jI x1))]) hx_ hb_ dX5_swallowed_14 rfl hl_ (by decide) rfl (fun ls hl_ => ?_)
      refine lv_iconst (v := jI 0) hx_ hb_ dX5_swallowed_15 (by decide +kernel) ?_
      refine lv_istore_n (lv' := [(3, .int (jI 0)), (2, .int (jI 0)), (0, .ref (a 0)), (1, .int (jI x1))]) hx_ hb_ dX5_swallowed_16 rfl hl_ (by decide) rfl (fun ls hl_ => ?_)
      have hX65 : ∀ (v4 : Int) (H : Heap) (locs : List Loc) (ls : Array Slot), f_X5_swallowed_X65 fu ho_m2 eh_m3 v4 = some (rr, q_ho, q_eh) → va_P D vwCl [(wMo y a rc is_ pd pn ho_m2 eh_m3 mv at_ tk fs lt ea), (wAr y (a 6) 205 stf), (wAr y (a 7) 205 kpf), (wAr y (a 8) 1230 hsf), (wAr y (a 9) 410 slf)].flatten H → va_D A [(wMo y a rc is_ pd pn ho_m2 eh_m3 mv at_ tk fs lt ea), (wAr y (a 6) 205 stf), (wAr y (a 7) 205 kpf), (wAr y (a 8) 1230 hsf), (wAr y (a 9) 410 slf)].flatten → va_S A s.heap H locs → lv_has ls 4 [(2, .int (jI v4))] → W p l e R s m args below meth c H locs 0 0 Q (F0 m 65 ls []) := by
        intro v4 H locs ls h_ hP_ hD_ hS_ hl_
        unfold f_X5_swallowed_X65 at h_
        refine lv_iload_n hx_ hb_ dX5_swallowed_65 rfl (lv_at hl_ 0 rfl) ?_
        exact hE_ _ _ _ _ _ _ _ h_ dX5_swallowed_66 hP_ hD_ hS_
      have hL17 : ∀ n17 : Nat, ∀ (v5 : Int) (v6 : Int) (H : Heap) (locs : List Loc) (ls : Array Slot), f_X5_swallowed_L17 fu stf x1 eh_m3 (f_X5_swallowed_X65 fu ho_m2 eh_m3) n17 v5 v6 = some (rr, q_ho, q_eh) → va_P D vwCl [(wMo y a rc is_ pd pn ho_m2 eh_m3 mv at_ tk fs lt ea), (wAr y (a 6) 205 stf), (wAr y (a 7) 205 kpf), (wAr y (a 8) 1230 hsf), (wAr y (a 9) 410 slf)].flatten H → va_D A [(wMo y a rc is_ pd pn ho_m2 eh_m3 mv at_ tk fs lt ea), (wAr y (a 6) 205 stf), (wAr y (a 7) 205 kpf), (wAr y (a 8) 1230 hsf), (wAr y (a 9) 410 slf)].flatten → va_S A s.heap H locs → lv_has ls 4 [(0, .ref (a 0)), (1, .int (jI x1)), (2, .int (jI v5)), (3, .int (jI v6))] → W p l e R s m args below meth c H locs 0 0 Q (F0 m 17 ls []) := by
        intro n17
        induction n17 with
        | zero => intro _ _ H locs ls h_; have h_ : (none : Option (Int × (Int → Int) × (Int → Int))) = some (rr, q_ho, q_eh) := h_; cases h_
        | succ n17 ih17 =>
          intro v5 v6 H locs ls h_ hP_ hD_ hS_ hl_
          replace h_ : f_X5_swallowed_L17_b fu stf x1 eh_m3 (f_X5_swallowed_X65 fu ho_m2 eh_m3) (f_X5_swallowed_L17 fu stf x1 eh_m3 (f_X5_swallowed_X65 fu ho_m2 eh_m3) n17) v5 v6 = some (rr, q_ho, q_eh) := h_
          unfold f_X5_swallowed_L17_b at h_
          refine lv_iload_n hx_ hb_ dX5_swallowed_17 rfl (lv_at hl_ 3 rfl) ?_
          refine lv_aload_n hx_ hb_ dX5_swallowed_18 rfl (lv_at hl_ 0 rfl) ?_
          refine va_get (D := D) (ci := 5) (v := .ref (a 6)) (C := RX5) (T := TX5) (N := 16) hx_ hb_ hts_ hin_ hown_ hM_.1 hP_ 0 rfl rfl 0 (by decide) (hts_ (.fieldLink RX5 7 "MusicHolesModel" "state" "[I") (by decide +kernel)) (fun _ h9_ => h9_) rfl dX5_swallowed_19 ?_
          refine lv_iconst (v := jI 4) hx_ hb_ dX5_swallowed_22 (by decide +kernel) ?_
          refine jx_iald hx_ hb_ hM_ hP_ 6 0 rfl rfl rfl (Nat.le_of_ble_eq_true rfl) h_ dX5_swallowed_23 (fun h_ => ?_)
          refine jx_icmp_ge (tgt := 65) hx_ hb_ h_ dX5_swallowed_24 (by decide) (fun h_ => ?_) (fun h_ => ?_)
          · exact hX65 _ _ _ ls h_ hP_ hD_ hS_ (lv_sub hl_ [2] rfl)
          · refine lv_iload_n hx_ hb_ dX5_swallowed_27 rfl (lv_at hl_ 2 rfl) ?_
            refine lv_aload_n hx_ hb_ dX5_swallowed_28 rfl (lv_at hl_ 0 rfl) ?_
            refine lv_iload_n hx_ hb_ dX5_swallowed_29 rfl (lv_at hl_ 3 rfl) ?_
            refine lv_iconst (v := jI 0) hx_ hb_ dX5_swallowed_30 (by decide +kernel) ?_
            obtain ⟨v7, hv7, h_⟩ := jb_i h_
            refine jx_cvi (wr := []) (cw := [(wMo y a rc is_ pd pn ho_m2 eh_m3 mv at_ tk fs lt ea), (wAr y (a 6) 205 stf), (wAr y (a 7) 205 kpf), (wAr y (a 8) 1230 hsf), (wAr y (a 9) 410 slf)]) (cw1 := [(wMo y a rc is_ pd pn ho_m2 eh_m3 mv at_ tk fs lt ea), (wAr y (a 6) 205 stf), (wAr y (a 7) 205 kpf), (wAr y (a 8) 1230 hsf), (wAr y (a 9) 410 slf)]) (cs1 := [(wMo y a rc is_ pd pn ho_m2 eh_m3 mv at_ tk fs lt ea), (wAr y (a 6) 205 stf), (wAr y (a 7) 205 kpf), (wAr y (a 8) 1230 hsf), (wAr y (a 9) 410 slf)]) (As := [.int (jI v6), .int (jI 0)]) (rest := [.int (jI v5)]) ⟨hx_, hb_, hml_, hown_, hts_⟩ hM_ hP_ hD_ hS_ hA_ (List.Perm.refl _) (List.Perm.refl _) (c_X5_part l D y z a rc is_ pd pn ho_m2 eh_m3 mv at_ tk fs lt ea stf kpf hsf slf v6 0 fu v7 hv7) 2 gX5_swallowed_X5_part rfl ⟨rfl, rfl⟩ (by decide +kernel) ⟨by rw [hR_]; exact Nat.le_of_ble_eq_true rfl, by rw [hR_]; exact Nat.le_of_ble_eq_true rfl⟩ 0 5 rfl rfl rfl rfl rfl hl_.1 (Nat.le_of_ble_eq_true rfl) dX5_swallowed_31 ⟨Nat.zero_le _, Nat.zero_le _⟩ (fun H locs hP_ hD_ hS_ => ?_)
            refine lv_iload_n hx_ hb_ dX5_swallowed_34 rfl (lv_at hl_ 1 rfl) ?_
            refine jx_icmp_ne (tgt := 56) hx_ hb_ h_ dX5_swallowed_35 (by decide) (fun h_ => ?_) (fun h_ => ?_)
            · refine lv_iconst (v := jI 0) hx_ hb_ dX5_swallowed_56 (by decide +kernel) ?_
              refine jx_iadd hx_ hb_ dX5_swallowed_57 ?_
              refine lv_istore_n (lv' := [(2, .int (jI (v5 + 0))), (0, .ref (a 0)), (1, .int (jI x1)), (3, .int (jI v6))]) hx_ hb_ dX5_swallowed_58 rfl hl_ (by decide) rfl (fun ls hl_ => ?_)
              refine lv_iinc (v := jI (v6 + 1)) (lv' := [(3, .int (jI (v6 + 1))), (2, .int (jI (v5 + 0))), (0, .ref (a 0)), (1, .int (jI x1))]) hx_ hb_ dX5_swallowed_59 hl_ (k := 3) rfl (jI_add _ _) (by decide) rfl (fun ls hl_ => ?_)
              refine lv_goto (tgt := 17) hx_ hb_ dX5_swallowed_62 (by decide) ?_
              exact ih17 _ _ _ _ ls h_ hP_ hD_ hS_ (lv_sub hl_ [2, 3, 1, 0] rfl)
            · refine lv_aload_n hx_ hb_ dX5_swallowed_38 rfl (lv_at hl_ 0 rfl) ?_
              refine lv_iload_n hx_ hb_ dX5_swallowed_39 rfl (lv_at hl_ 1 rfl) ?_
              refine lv_aload_n hx_ hb_ dX5_swallowed_40 rfl (lv_at hl_ 0 rfl) ?_
              refine lv_iload_n hx_ hb_ dX5_swallowed_41 rfl (lv_at hl_ 3 rfl) ?_
              refine lv_iconst (v := jI 1) hx_ hb_ dX5_swallowed_42 (by decide +kernel) ?_
              obtain ⟨v8, hv8, h_⟩ := jb_i h_
              refine jx_cvi (wr := []) (cw := [(wMo y a rc is_ pd pn ho_m2 eh_m3 mv at_ tk fs lt ea), (wAr y (a 6) 205 stf), (wAr y (a 7) 205 kpf), (wAr y (a 8) 1230 hsf), (wAr y (a 9) 410 slf)]) (cw1 := [(wMo y a rc is_ pd pn ho_m2 eh_m3 mv at_ tk fs lt ea), (wAr y (a 6) 205 stf), (wAr y (a 7) 205 kpf), (wAr y (a 8) 1230 hsf), (wAr y (a 9) 410 slf)]) (cs1 := [(wMo y a rc is_ pd pn ho_m2 eh_m3 mv at_ tk fs lt ea), (wAr y (a 6) 205 stf), (wAr y (a 7) 205 kpf), (wAr y (a 8) 1230 hsf), (wAr y (a 9) 410 slf)]) (As := [.int (jI v6), .int (jI 1)]) (rest := [.int (jI x1), .ref (a 0), .int (jI v5)]) ⟨hx_, hb_, hml_, hown_, hts_⟩ hM_ hP_ hD_ hS_ hA_ (List.Perm.refl _) (List.Perm.refl _) (c_X5_part l D y z a rc is_ pd pn ho_m2 eh_m3 mv at_ tk fs lt ea stf kpf hsf slf v6 1 fu v8 hv8) 2 gX5_swallowed_X5_part rfl ⟨rfl, rfl⟩ (by decide +kernel) ⟨by rw [hR_]; exact Nat.le_of_ble_eq_true rfl, by rw [hR_]; exact Nat.le_of_ble_eq_true rfl⟩ 0 5 rfl rfl rfl rfl rfl hl_.1 (Nat.le_of_ble_eq_true rfl) dX5_swallowed_43 ⟨Nat.zero_le _, Nat.zero_le _⟩ (fun H locs hP_ hD_ hS_ => ?_)
              obtain ⟨v9, hv9, h_⟩ := jb_i h_
              refine jx_cvi (wr := []) (cw := [(wMo y a rc is_ pd pn ho_m2 eh_m3 mv at_ tk fs lt ea), (wAr y (a 6) 205 stf), (wAr y (a 7) 205 kpf), (wAr y (a 8) 1230 hsf), (wAr y (a 9) 410 slf)]) (cw1 := [(wMo y a rc is_ pd pn ho_m2 eh_m3 mv at_ tk fs lt ea), (wAr y (a 6) 205 stf), (wAr y (a 7) 205 kpf), (wAr y (a 8) 1230 hsf), (wAr y (a 9) 410 slf)]) (cs1 := [(wMo y a rc is_ pd pn ho_m2 eh_m3 mv at_ tk fs lt ea), (wAr y (a 6) 205 stf), (wAr y (a 7) 205 kpf), (wAr y (a 8) 1230 hsf), (wAr y (a 9) 410 slf)]) (As := [.int (jI x1), .int (jI v8)]) (rest := [.int (jI v5)]) ⟨hx_, hb_, hml_, hown_, hts_⟩ hM_ hP_ hD_ hS_ hA_ (List.Perm.refl _) (List.Perm.refl _) (c_X5_begins l D y z a rc is_ pd pn ho_m2 eh_m3 mv at_ tk fs lt ea stf kpf hsf slf x1 v8 fu v9 hv9) 2 gX5_swallowed_X5_begins rfl ⟨rfl, rfl⟩ (by decide +kernel) ⟨by rw [hR_]; exact Nat.le_of_ble_eq_true rfl, by rw [hR_]; exact Nat.le_of_ble_eq_true rfl⟩ 0 5 rfl rfl rfl rfl rfl hl_.1 (Nat.le_of_ble_eq_true rfl) dX5_swallowed_46 ⟨Nat.zero_le _, Nat.zero_le _⟩ (fun H locs hP_ hD_ hS_ => ?_)
              refine jx_if_ne (tgt := 56) hx_ hb_ h_ dX5_swallowed_49 (by decide) (fun h_ => ?_) (fun h_ => ?_)
              · refine lv_iconst (v := jI 0) hx_ hb_ dX5_swallowed_56 (by decide +kernel) ?_
                refine jx_iadd hx_ hb_ dX5_swallowed_57 ?_
                refine lv_istore_n (lv' := [(2, .int (jI (v5 + 0))), (0, .ref (a 0)), (1, .int (jI x1)), (3, .int (jI v6))]) hx_ hb_ dX5_swallowed_58 rfl hl_ (by decide) rfl (fun ls hl_ => ?_)
                refine lv_iinc (v := jI (v6 + 1)) (lv' := [(3, .int (jI (v6 + 1))), (2, .int (jI (v5 + 0))), (0, .ref (a 0)), (1, .int (jI x1))]) hx_ hb_ dX5_swallowed_59 hl_ (k := 3) rfl (jI_add _ _) (by decide) rfl (fun ls hl_ => ?_)
                refine lv_goto (tgt := 17) hx_ hb_ dX5_swallowed_62 (by decide) ?_
                exact ih17 _ _ _ _ ls h_ hP_ hD_ hS_ (lv_sub hl_ [2, 3, 1, 0] rfl)
              · refine lv_iconst (v := jI 1) hx_ hb_ dX5_swallowed_52 (by decide +kernel) ?_
                refine lv_goto (tgt := 57) hx_ hb_ dX5_swallowed_53 (by decide) ?_
                refine jx_iadd hx_ hb_ dX5_swallowed_57 ?_
                refine lv_istore_n (lv' := [(2, .int (jI (v5 + 1))), (0, .ref (a 0)), (1, .int (jI x1)), (3, .int (jI v6))]) hx_ hb_ dX5_swallowed_58 rfl hl_ (by decide) rfl (fun ls hl_ => ?_)
                refine lv_iinc (v := jI (v6 + 1)) (lv' := [(3, .int (jI (v6 + 1))), (2, .int (jI (v5 + 1))), (0, .ref (a 0)), (1, .int (jI x1))]) hx_ hb_ dX5_swallowed_59 hl_ (k := 3) rfl (jI_add _ _) (by decide) rfl (fun ls hl_ => ?_)
                refine lv_goto (tgt := 17) hx_ hb_ dX5_swallowed_62 (by decide) ?_
                exact ih17 _ _ _ _ ls h_ hP_ hD_ hS_ (lv_sub hl_ [2, 3, 1, 0] rfl)
      exact hL17 fu _ _ _ _ ls h_ hP_ hD_ hS_ (lv_sub hl_ [2, 3, 1, 0] rfl)
    · refine lv_iconst (v := jI (-1)) hx_ hb_ dX5_swallowed_7 (by decide +kernel) ?_
      exact hE_ _ _ _ _ _ _ _ h_ dX5_swallowed_8 hP_ hD_ hS_
  exact key_ _ (fun v9 ho9 eh9 H locs pc ls h9_ hdg_ hP_ hD_ hS_ => by cases h9_; exact jend_i hx_ hb_ hr_ hlocks_ hP_ hD_ hS_ hdg_)
def rm_X5_freeGoal : Room := { frames := 4, cells := 0, slots := 0, locals := 96 }
set_option maxRecDepth 100000 in
set_option maxHeartbeats 8000000 in
theorem c_X5_freeGoal (l : Launch) (D : va_G) (y : Nat → ClassId) (z : Nat → Nat) (a : Nat → Nat) (rc : Int) (is_ : Int → Int) (pd : Int → Int) (pn : Int) (ho : Int → Int) (eh : Int → Int) (mv : Int → Int) (at_ : Int) (tk : Int) (fs : Int) (lt : Int) (ea : Int) (stf : Int → Int) (kpf : Int → Int) (hsf : Int → Int) (slf : Int → Int) (x1 : Int) (x2 : Int) (fu : Nat) (rr : Int) (h_ : f_X5_freeGoal fu stf x1 x2 = some rr) : jCI l D y z yX5_freeGoal wsX5_freeGoal rm_X5_freeGoal [.ref (a 0), .int (jI x1), .int (jI x2)] [(wMo y a rc is_ pd pn ho eh mv at_ tk fs lt ea), (wAr y (a 6) 205 stf), (wAr y (a 7) 205 kpf), (wAr y (a 8) 1230 hsf), (wAr y (a 9) 410 slf)] [(wMo y a rc is_ pd pn ho eh mv at_ tk fs lt ea), (wAr y (a 6) 205 stf), (wAr y (a 7) 205 kpf), (wAr y (a 8) 1230 hsf), (wAr y (a 9) 410 slf)] rr := by
  intro sz
  refine jmet (Qc := (fun A => va_Qi (fun v (_ : Unit) => v = jI rr) (jB D A [(wMo y a rc is_ pd pn ho eh mv at_ tk fs lt ea), (wAr y (a 6) 205 stf), (wAr y (a 7) 205 kpf), (wAr y (a 8) 1230 hsf), (wAr y (a 9) 410 slf)]) A)) (cc := cX5_freeGoal) (maxL := 4) (ret := (some .int)) (own := RX5) (by decide) rfl (Nat.le_of_ble_eq_true rfl) rfl (fun p e s m R args below meth c A ls hR_ hargs_ hx_ hb_ hr_ hlocks_ hml_ hown_ hts_ hname_ hsz_ hP_ hD_ hA_ hM_ hl_ => ?_)
  have key_ : ∀ Q : State → Prop, (∀ (v9 : Int) (H : Heap) (locs : List Loc) (pc : Nat) (ls : Array Slot), some v9 = some rr → decode cX5_freeGoal pc = .ok (.ireturn, 1) → va_P D vwCl [(wMo y a rc is_ pd pn ho eh mv at_ tk fs lt ea), (wAr y (a 6) 205 stf), (wAr y (a 7) 205 kpf), (wAr y (a 8) 1230 hsf), (wAr y (a 9) 410 slf)].flatten H → va_D A [(wMo y a rc is_ pd pn ho eh mv at_ tk fs lt ea), (wAr y (a 6) 205 stf), (wAr y (a 7) 205 kpf), (wAr y (a 8) 1230 hsf), (wAr y (a 9) 410 slf)].flatten → va_S A s.heap H locs → W p l e R s m args below meth c H locs 0 0 Q (F0 m pc ls [.int (jI v9)])) → W p l e R s m args below meth c s.heap [] 0 0 Q (F0 m 0 ls []) := by
    intro Q hE_
    have hS_ : va_S A s.heap s.heap [] := va_S.rf
    have hl_ : lv_has ls 4 [(0, .ref (a 0)), (1, .int (jI x1)), (2, .int (jI x2))] := hl_
    have hin_ : ∀ w ∈ u_ws RX5 TX5 16, w ∈ wsX5_freeGoal := by decide +kernel
    unfold f_X5_freeGoal at h_
    refine lv_iload_n hx_ hb_ dX5_freeGoal_0 rfl (lv_at hl_ 1 rfl) ?_
    refine lv_iload_n hx_ hb_ dX5_freeGoal_1 rfl (lv_at hl_ 2 rfl) ?_
    obtain ⟨v1, hv1, h_⟩ := jb_i h_
    refine jx_csi (b := 0) (C := "") (wr := [(wMo y a rc is_ pd pn ho eh mv at_ tk fs lt ea), (wAr y (a 6) 205 stf), (wAr y (a 7) 205 kpf), (wAr y (a 8) 1230 hsf), (wAr y (a 9) 410 slf)]) (cw := []) (cw1 := []) (cs1 := [(wMo y a rc is_ pd pn ho eh mv at_ tk fs lt ea), (wAr y (a 6) 205 stf), (wAr y (a 7) 205 kpf), (wAr y (a 8) 1230 hsf), (wAr y (a 9) 410 slf)]) (As := [.int (jI x1), .int (jI x2)]) (rest := []) ⟨hx_, hb_, hml_, hown_, hts_⟩ hM_ hP_ hD_ hS_ hA_ (List.Perm.of_eq (List.append_nil _).symm) (List.Perm.of_eq (List.append_nil _)) (c_X5_isPassage l D y z x1 x2 fu v1 hv1) 2 (va_cwS 2 hts_ gX5_freeGoal_X5_isPassage rfl rfl rfl (by decide +kernel) ⟨by rw [hR_]; exact Nat.le_of_ble_eq_true rfl, by rw [hR_]; exact Nat.le_of_ble_eq_true rfl⟩) rfl ⟨rfl, rfl⟩ ⟨by rw [hR_]; exact Nat.le_of_ble_eq_true rfl, by rw [hR_]; exact Nat.le_of_ble_eq_true rfl⟩ rfl rfl hl_.1 (Nat.le_of_ble_eq_true rfl) dX5_freeGoal_2 ⟨Nat.zero_le _, Nat.zero_le _⟩ (fun H locs hP_ hD_ hS_ => ?_)
    refine jx_if_ne (tgt := 11) hx_ hb_ h_ dX5_freeGoal_5 (by decide) (fun h_ => ?_) (fun h_ => ?_)
    · refine lv_aload_n hx_ hb_ dX5_freeGoal_11 rfl (lv_at hl_ 0 rfl) ?_
      refine lv_iload_n hx_ hb_ dX5_freeGoal_12 rfl (lv_at hl_ 1 rfl) ?_
      refine lv_iload_n hx_ hb_ dX5_freeGoal_13 rfl (lv_at hl_ 2 rfl) ?_
      obtain ⟨v2, hv2, h_⟩ := jb_i h_
      refine jx_cvi (wr := []) (cw := [(wMo y a rc is_ pd pn ho eh mv at_ tk fs lt ea), (wAr y (a 6) 205 stf), (wAr y (a 7) 205 kpf), (wAr y (a 8) 1230 hsf), (wAr y (a 9) 410 slf)]) (cw1 := [(wMo y a rc is_ pd pn ho eh mv at_ tk fs lt ea), (wAr y (a 6) 205 stf), (wAr y (a 7) 205 kpf), (wAr y (a 8) 1230 hsf), (wAr y (a 9) 410 slf)]) (cs1 := [(wMo y a rc is_ pd pn ho eh mv at_ tk fs lt ea), (wAr y (a 6) 205 stf), (wAr y (a 7) 205 kpf), (wAr y (a 8) 1230 hsf), (wAr y (a 9) 410 slf)]) (As := [.int (jI x1), .int (jI x2)]) (rest := []) ⟨hx_, hb_, hml_, hown_, hts_⟩ hM_ hP_ hD_ hS_ hA_ (List.Perm.refl _) (List.Perm.refl _) (c_X5_betweenMany l D y z a rc is_ pd pn ho eh mv at_ tk fs lt ea stf kpf hsf slf x1 x2 fu v2 hv2) 2 gX5_freeGoal_X5_betweenMany rfl ⟨rfl, rfl⟩ (by decide +kernel) ⟨by rw [hR_]; exact Nat.le_of_ble_eq_true rfl, by rw [hR_]; exact Nat.le_of_ble_eq_true rfl⟩ 0 5 rfl rfl rfl rfl rfl hl_.1 (Nat.le_of_ble_eq_true rfl) dX5_freeGoal_14 ⟨Nat.zero_le _, Nat.zero_le _⟩ (fun H locs hP_ hD_ hS_ => ?_)
      refine jx_if_ne (tgt := 23) hx_ hb_ h_ dX5_freeGoal_17 (by decide) (fun h_ => ?_) (fun h_ => ?_)
      · refine lv_iconst (v := jI 0) hx_ hb_ dX5_freeGoal_23 (by decide +kernel) ?_
        refine lv_istore_n (lv' := [(3, .int (jI 0)), (0, .ref (a 0)), (1, .int (jI x1)), (2, .int (jI x2))]) hx_ hb_ dX5_freeGoal_24 rfl hl_ (by decide) rfl (fun ls hl_ => ?_)
        have hX49 : ∀  (H : Heap) (locs : List Loc) (ls : Array Slot), f_X5_freeGoal_X49 fu = some rr → va_P D vwCl [(wMo y a rc is_ pd pn ho eh mv at_ tk fs lt ea), (wAr y (a 6) 205 stf), (wAr y (a 7) 205 kpf), (wAr y (a 8) 1230 hsf), (wAr y (a 9) 410 slf)].flatten H → va_D A [(wMo y a rc is_ pd pn ho eh mv at_ tk fs lt ea), (wAr y (a 6) 205 stf), (wAr y (a 7) 205 kpf), (wAr y (a 8) 1230 hsf), (wAr y (a 9) 410 slf)].flatten → va_S A s.heap H locs → lv_has ls 4 [] → W p l e R s m args below meth c H locs 0 0 Q (F0 m 49 ls []) := by
          intro  H locs ls h_ hP_ hD_ hS_ hl_
          unfold f_X5_freeGoal_X49 at h_
          refine lv_bipush (v := jI (-6)) hx_ hb_ dX5_freeGoal_49 (by decide +kernel) ?_
          exact hE_ _ _ _ _ _ h_ dX5_freeGoal_51 hP_ hD_ hS_
        have hL25 : ∀ n25 : Nat, ∀ (v3 : Int) (H : Heap) (locs : List Loc) (ls : Array Slot), f_X5_freeGoal_L25 fu stf x1 x2 (f_X5_freeGoal_X49 fu) n25 v3 = some rr → va_P D vwCl [(wMo y a rc is_ pd pn ho eh mv at_ tk fs lt ea), (wAr y (a 6) 205 stf), (wAr y (a 7) 205 kpf), (wAr y (a 8) 1230 hsf), (wAr y (a 9) 410 slf)].flatten H → va_D A [(wMo y a rc is_ pd pn ho eh mv at_ tk fs lt ea), (wAr y (a 6) 205 stf), (wAr y (a 7) 205 kpf), (wAr y (a 8) 1230 hsf), (wAr y (a 9) 410 slf)].flatten → va_S A s.heap H locs → lv_has ls 4 [(0, .ref (a 0)), (1, .int (jI x1)), (2, .int (jI x2)), (3, .int (jI v3))] → W p l e R s m args below meth c H locs 0 0 Q (F0 m 25 ls []) := by
          intro n25
          induction n25 with
          | zero => intro _ H locs ls h_; have h_ : (none : Option (Int)) = some rr := h_; cases h_
          | succ n25 ih25 =>
            intro v3 H locs ls h_ hP_ hD_ hS_ hl_
            replace h_ : f_X5_freeGoal_L25_b fu stf x1 x2 (f_X5_freeGoal_X49 fu) (f_X5_freeGoal_L25 fu stf x1 x2 (f_X5_freeGoal_X49 fu) n25) v3 = some rr := h_
            unfold f_X5_freeGoal_L25_b at h_
            refine lv_iload_n hx_ hb_ dX5_freeGoal_25 rfl (lv_at hl_ 3 rfl) ?_
            refine lv_bipush (v := jI 100) hx_ hb_ dX5_freeGoal_26 (by decide +kernel) ?_
            refine jx_icmp_ge (tgt := 49) hx_ hb_ h_ dX5_freeGoal_28 (by decide) (fun h_ => ?_) (fun h_ => ?_)
            · exact hX49  _ _ ls h_ hP_ hD_ hS_ (lv_sub hl_ [] rfl)
            · refine lv_aload_n hx_ hb_ dX5_freeGoal_31 rfl (lv_at hl_ 0 rfl) ?_
              refine lv_iload_n hx_ hb_ dX5_freeGoal_32 rfl (lv_at hl_ 1 rfl) ?_
              refine lv_iload_n hx_ hb_ dX5_freeGoal_33 rfl (lv_at hl_ 2 rfl) ?_
              refine lv_iload_n hx_ hb_ dX5_freeGoal_34 rfl (lv_at hl_ 3 rfl) ?_
              obtain ⟨v4, hv4, h_⟩ := jb_i h_
              refine jx_cvi (wr := []) (cw := [(wMo y a rc is_ pd pn ho eh mv at_ tk fs lt ea), (wAr y (a 6) 205 stf), (wAr y (a 7) 205 kpf), (wAr y (a 8) 1230 hsf), (wAr y (a 9) 410 slf)]) (cw1 := [(wMo y a rc is_ pd pn ho eh mv at_ tk fs lt ea), (wAr y (a 6) 205 stf), (wAr y (a 7) 205 kpf), (wAr y (a 8) 1230 hsf), (wAr y (a 9) 410 slf)]) (cs1 := [(wMo y a rc is_ pd pn ho eh mv at_ tk fs lt ea), (wAr y (a 6) 205 stf), (wAr y (a 7) 205 kpf), (wAr y (a 8) 1230 hsf), (wAr y (a 9) 410 slf)]) (As := [.int (jI x1), .int (jI x2), .int (jI v3)]) (rest := []) ⟨hx_, hb_, hml_, hown_, hts_⟩ hM_ hP_ hD_ hS_ hA_ (List.Perm.refl _) (List.Perm.refl _) (c_X5_whyNotCopied l D y z a rc is_ pd pn ho eh mv at_ tk fs lt ea stf kpf hsf slf x1 x2 v3 fu v4 hv4) 3 gX5_freeGoal_X5_whyNotCopied rfl ⟨rfl, rfl⟩ (by decide +kernel) ⟨by rw [hR_]; exact Nat.le_of_ble_eq_true rfl, by rw [hR_]; exact Nat.le_of_ble_eq_true rfl⟩ 0 5 rfl rfl rfl rfl rfl hl_.1 (Nat.le_of_ble_eq_true rfl) dX5_freeGoal_35 ⟨Nat.zero_le _, Nat.zero_le _⟩ (fun H locs hP_ hD_ hS_ => ?_)
              refine jx_if_ne (tgt := 43) hx_ hb_ h_ dX5_freeGoal_38 (by decide) (fun h_ => ?_) (fun h_ => ?_)
              · refine lv_iinc (v := jI (v3 + 1)) (lv' := [(3, .int (jI (v3 + 1))), (0, .ref (a 0)), (1, .int (jI x1)), (2, .int (jI x2))]) hx_ hb_ dX5_freeGoal_43 hl_ (k := 3) rfl (jI_add _ _) (by decide) rfl (fun ls hl_ => ?_)
                refine lv_goto (tgt := 25) hx_ hb_ dX5_freeGoal_46 (by decide) ?_
                exact ih25 _ _ _ ls h_ hP_ hD_ hS_ (lv_sub hl_ [1, 2, 3, 0] rfl)
              · refine lv_iload_n hx_ hb_ dX5_freeGoal_41 rfl (lv_at hl_ 3 rfl) ?_
                exact hE_ _ _ _ _ _ h_ dX5_freeGoal_42 hP_ hD_ hS_
        exact hL25 fu _ _ _ ls h_ hP_ hD_ hS_ (lv_sub hl_ [1, 2, 3, 0] rfl)
      · refine lv_bipush (v := jI (-6)) hx_ hb_ dX5_freeGoal_20 (by decide +kernel) ?_
        exact hE_ _ _ _ _ _ h_ dX5_freeGoal_22 hP_ hD_ hS_
    · refine lv_bipush (v := jI (-2)) hx_ hb_ dX5_freeGoal_8 (by decide +kernel) ?_
      exact hE_ _ _ _ _ _ h_ dX5_freeGoal_10 hP_ hD_ hS_
  exact key_ _ (fun v9 H locs pc ls h9_ hdg_ hP_ hD_ hS_ => by cases h9_; exact jend_i hx_ hb_ hr_ hlocks_ hP_ hD_ hS_ hdg_)
def rm_X5_put : Room := { frames := 1, cells := 0, slots := 0, locals := 22 }
set_option maxRecDepth 100000 in
set_option maxHeartbeats 8000000 in
theorem c_X5_put (l : Launch) (D : va_G) (y : Nat → ClassId) (z : Nat → Nat) (a : Nat → Nat) (rc : Int) (is_ : Int → Int) (pd : Int → Int) (pn : Int) (ho : Int → Int) (eh : Int → Int) (mv : Int → Int) (at_ : Int) (tk : Int) (fs : Int) (lt : Int) (ea : Int) (stf : Int → Int) (kpf : Int → Int) (hsf : Int → Int) (slf : Int → Int) (w1 : Int64) (fu : Nat) (rr : Int) (q_pd : Int → Int) (q_pn : Int) (h_ : f_X5_put fu pd pn w1 = some (rr, q_pd, q_pn)) : jCI l D y z yX5_put wsX5_put rm_X5_put [.ref (a 0), .long w1] [(wMo y a rc is_ pd pn ho eh mv at_ tk fs lt ea), (wAr y (a 6) 205 stf), (wAr y (a 7) 205 kpf), (wAr y (a 8) 1230 hsf), (wAr y (a 9) 410 slf)] [(wMo y a rc is_ q_pd q_pn ho eh mv at_ tk fs lt ea), (wAr y (a 6) 205 stf), (wAr y (a 7) 205 kpf), (wAr y (a 8) 1230 hsf), (wAr y (a 9) 410 slf)] rr := by
  intro sz
  refine jmet (Qc := (fun A => va_Qi (fun v (_ : Unit) => v = jI rr) (jB D A [(wMo y a rc is_ q_pd q_pn ho eh mv at_ tk fs lt ea), (wAr y (a 6) 205 stf), (wAr y (a 7) 205 kpf), (wAr y (a 8) 1230 hsf), (wAr y (a 9) 410 slf)]) A)) (cc := cX5_put) (maxL := 8) (ret := (some .int)) (own := RX5) (by decide) rfl (Nat.le_of_ble_eq_true rfl) rfl (fun p e s m R args below meth c A ls hR_ hargs_ hx_ hb_ hr_ hlocks_ hml_ hown_ hts_ hname_ hsz_ hP_ hD_ hA_ hM_ hl_ => ?_)
  have key_ : ∀ Q : State → Prop, (∀ (v9 : Int) (pd9 : Int → Int) (pn9 : Int) (H : Heap) (locs : List Loc) (pc : Nat) (ls : Array Slot), some (v9, pd9, pn9) = some (rr, q_pd, q_pn) → decode cX5_put pc = .ok (.ireturn, 1) → va_P D vwCl [(wMo y a rc is_ pd9 pn9 ho eh mv at_ tk fs lt ea), (wAr y (a 6) 205 stf), (wAr y (a 7) 205 kpf), (wAr y (a 8) 1230 hsf), (wAr y (a 9) 410 slf)].flatten H → va_D A [(wMo y a rc is_ pd9 pn9 ho eh mv at_ tk fs lt ea), (wAr y (a 6) 205 stf), (wAr y (a 7) 205 kpf), (wAr y (a 8) 1230 hsf), (wAr y (a 9) 410 slf)].flatten → va_S A s.heap H locs → W p l e R s m args below meth c H locs 0 0 Q (F0 m pc ls [.int (jI v9)])) → W p l e R s m args below meth c s.heap [] 0 0 Q (F0 m 0 ls []) := by
    intro Q hE_
    have hS_ : va_S A s.heap s.heap [] := va_S.rf
    have hl_ : lv_has ls 8 [(0, .ref (a 0)), (1, .long w1)] := hl_
    have hin_ : ∀ w ∈ u_ws RX5 TX5 16, w ∈ wsX5_put := by decide +kernel
    unfold f_X5_put at h_
    refine lv_iconst (v := jI 0) hx_ hb_ dX5_put_0 (by decide +kernel) ?_
    refine lv_istore_n (lv' := [(3, .int (jI 0)), (0, .ref (a 0)), (1, .long w1)]) hx_ hb_ dX5_put_1 rfl hl_ (by decide) rfl (fun ls hl_ => ?_)
    refine lv_lload_n hx_ hb_ dX5_put_2 rfl (lv_at hl_ 2 rfl) ?_
    refine lv_lstore (lv' := [(4, .long w1), (3, .int (jI 0)), (0, .ref (a 0)), (1, .long w1)]) hx_ hb_ dX5_put_3 hl_ (by decide) rfl (fun ls hl_ => ?_)
    refine lv_iconst (v := jI 1) hx_ hb_ dX5_put_5 (by decide +kernel) ?_
    refine lv_istore (lv' := [(6, .int (jI 1)), (4, .long w1), (3, .int (jI 0)), (0, .ref (a 0)), (1, .long w1)]) hx_ hb_ dX5_put_6 hl_ (by decide) rfl (fun ls hl_ => ?_)
    have hX67 : ∀ (v1 : Int) (w2 : Int64) (v3 : Int) (H : Heap) (locs : List Loc) (ls : Array Slot), f_X5_put_X67 fu pd pn w1 v1 w2 v3 = some (rr, q_pd, q_pn) → va_P D vwCl [(wMo y a rc is_ pd pn ho eh mv at_ tk fs lt ea), (wAr y (a 6) 205 stf), (wAr y (a 7) 205 kpf), (wAr y (a 8) 1230 hsf), (wAr y (a 9) 410 slf)].flatten H → va_D A [(wMo y a rc is_ pd pn ho eh mv at_ tk fs lt ea), (wAr y (a 6) 205 stf), (wAr y (a 7) 205 kpf), (wAr y (a 8) 1230 hsf), (wAr y (a 9) 410 slf)].flatten → va_S A s.heap H locs → lv_has ls 8 [(0, .ref (a 0)), (1, .long w1), (3, .int (jI v1)), (4, .long w2), (6, .int (jI v3))] → W p l e R s m args below meth c H locs 0 0 Q (F0 m 67 ls []) := by
      intro v1 w2 v3 H locs ls h_ hP_ hD_ hS_ hl_
      unfold f_X5_put_X67 at h_
      refine lv_iload_n hx_ hb_ dX5_put_67 rfl (lv_at hl_ 2 rfl) ?_
      refine jx_if_eq (tgt := 83) hx_ hb_ h_ dX5_put_68 (by decide) (fun h_ => ?_) (fun h_ => ?_)
      · refine lv_bipush (v := jI (-2)) hx_ hb_ dX5_put_83 (by decide +kernel) ?_
        exact hE_ _ _ _ _ _ _ _ h_ dX5_put_85 hP_ hD_ hS_
      · refine lv_iload hx_ hb_ dX5_put_71 (lv_at hl_ 4 rfl) ?_
        refine jx_if_eq (tgt := 83) hx_ hb_ h_ dX5_put_73 (by decide) (fun h_ => ?_) (fun h_ => ?_)
        · refine lv_bipush (v := jI (-2)) hx_ hb_ dX5_put_83 (by decide +kernel) ?_
          exact hE_ _ _ _ _ _ _ _ h_ dX5_put_85 hP_ hD_ hS_
        · refine lv_lload hx_ hb_ dX5_put_76 (lv_at hl_ 3 rfl) ?_
          refine lv_lconst (v := 0) hx_ hb_ dX5_put_78 (by decide +kernel) ?_
          refine jx_lcmp hx_ hb_ dX5_put_79 ?_
          refine jx_if_eq (tgt := 86) hx_ hb_ h_ dX5_put_80 (by decide) (fun h_ => ?_) (fun h_ => ?_)
          · refine lv_aload_n hx_ hb_ dX5_put_86 rfl (lv_at hl_ 0 rfl) ?_
            refine va_get (D := D) (ci := 5) (v := .int (jI pn)) (C := RX5) (T := TX5) (N := 16) hx_ hb_ hts_ hin_ hown_ hM_.1 hP_ 0 rfl rfl 7 (by decide) (hts_ (.fieldLink RX5 145 "MusicHolesModel" "padLength" "I") (by decide +kernel)) (fun _ h9_ => h9_) rfl dX5_put_87 ?_
            refine lv_iload_n hx_ hb_ dX5_put_90 rfl (lv_at hl_ 2 rfl) ?_
            refine jx_iadd hx_ hb_ dX5_put_91 ?_
            refine lv_bipush (v := jI 60) hx_ hb_ dX5_put_92 (by decide +kernel) ?_
            refine jx_icmp_le (tgt := 100) hx_ hb_ h_ dX5_put_94 (by decide) (fun h_ => ?_) (fun h_ => ?_)
            · refine lv_iload_n hx_ hb_ dX5_put_100 rfl (lv_at hl_ 2 rfl) ?_
              refine lv_iconst (v := jI 1) hx_ hb_ dX5_put_101 (by decide +kernel) ?_
              refine jx_isub hx_ hb_ dX5_put_102 ?_
              refine lv_istore (lv' := [(7, .int (jI (v1 - 1))), (0, .ref (a 0)), (1, .long w1), (3, .int (jI v1)), (4, .long w2), (6, .int (jI v3))]) hx_ hb_ dX5_put_103 hl_ (by decide) rfl (fun ls hl_ => ?_)
              have hX147 : ∀ (pd_m4 : Int → Int) (pn_m5 : Int) (H : Heap) (locs : List Loc) (ls : Array Slot), f_X5_put_X147 fu pd_m4 pn_m5 = some (rr, q_pd, q_pn) → va_P D vwCl [(wMo y a rc is_ pd_m4 pn_m5 ho eh mv at_ tk fs lt ea), (wAr y (a 6) 205 stf), (wAr y (a 7) 205 kpf), (wAr y (a 8) 1230 hsf), (wAr y (a 9) 410 slf)].flatten H → va_D A [(wMo y a rc is_ pd_m4 pn_m5 ho eh mv at_ tk fs lt ea), (wAr y (a 6) 205 stf), (wAr y (a 7) 205 kpf), (wAr y (a 8) 1230 hsf), (wAr y (a 9) 410 slf)].flatten → va_S A s.heap H locs → lv_has ls 8 [(0, .ref (a 0))] → W p l e R s m args below meth c H locs 0 0 Q (F0 m 147 ls []) := by
                intro pd_m4 pn_m5 H locs ls h_ hP_ hD_ hS_ hl_
                unfold f_X5_put_X147 at h_
                refine lv_aload_n hx_ hb_ dX5_put_147 rfl (lv_at hl_ 0 rfl) ?_
                refine va_get (D := D) (ci := 5) (v := .int (jI pn_m5)) (C := RX5) (T := TX5) (N := 16) hx_ hb_ hts_ hin_ hown_ hM_.1 hP_ 0 rfl rfl 7 (by decide) (hts_ (.fieldLink RX5 145 "MusicHolesModel" "padLength" "I") (by decide +kernel)) (fun _ h9_ => h9_) rfl dX5_put_148 ?_
                exact hE_ _ _ _ _ _ _ _ h_ dX5_put_151 hP_ hD_ hS_
              have hL105 : ∀ n105 : Nat, ∀ (pd_m6 : Int → Int) (pn_m7 : Int) (v8 : Int) (H : Heap) (locs : List Loc) (ls : Array Slot), f_X5_put_L105 fu w1 (f_X5_put_X147 fu) n105 pd_m6 pn_m7 v8 = some (rr, q_pd, q_pn) → va_P D vwCl [(wMo y a rc is_ pd_m6 pn_m7 ho eh mv at_ tk fs lt ea), (wAr y (a 6) 205 stf), (wAr y (a 7) 205 kpf), (wAr y (a 8) 1230 hsf), (wAr y (a 9) 410 slf)].flatten H → va_D A [(wMo y a rc is_ pd_m6 pn_m7 ho eh mv at_ tk fs lt ea), (wAr y (a 6) 205 stf), (wAr y (a 7) 205 kpf), (wAr y (a 8) 1230 hsf), (wAr y (a 9) 410 slf)].flatten → va_S A s.heap H locs → lv_has ls 8 [(0, .ref (a 0)), (1, .long w1), (7, .int (jI v8))] → W p l e R s m args below meth c H locs 0 0 Q (F0 m 105 ls []) := by
                intro n105
                induction n105 with
                | zero => intro _ _ _ H locs ls h_; have h_ : (none : Option (Int × (Int → Int) × Int)) = some (rr, q_pd, q_pn) := h_; cases h_
                | succ n105 ih105 =>
                  intro pd_m6 pn_m7 v8 H locs ls h_ hP_ hD_ hS_ hl_
                  replace h_ : f_X5_put_L105_b fu w1 (f_X5_put_X147 fu) (f_X5_put_L105 fu w1 (f_X5_put_X147 fu) n105) pd_m6 pn_m7 v8 = some (rr, q_pd, q_pn) := h_
                  unfold f_X5_put_L105_b at h_
                  refine lv_iload hx_ hb_ dX5_put_105 (lv_at hl_ 2 rfl) ?_
                  refine jx_if_lt (tgt := 147) hx_ hb_ h_ dX5_put_107 (by decide) (fun h_ => ?_) (fun h_ => ?_)
                  · exact hX147 _ _ _ _ ls h_ hP_ hD_ hS_ (lv_sub hl_ [0] rfl)
                  · refine lv_aload_n hx_ hb_ dX5_put_110 rfl (lv_at hl_ 0 rfl) ?_
                    refine va_get (D := D) (ci := 5) (v := .ref (a 2)) (C := RX5) (T := TX5) (N := 16) hx_ hb_ hts_ hin_ hown_ hM_.1 hP_ 0 rfl rfl 6 (by decide) (hts_ (.fieldLink RX5 25 "MusicHolesModel" "pad" "[I") (by decide +kernel)) (fun _ h9_ => h9_) rfl dX5_put_111 ?_
                    refine lv_aload_n hx_ hb_ dX5_put_114 rfl (lv_at hl_ 0 rfl) ?_
                    refine va_get (D := D) (ci := 5) (v := .int (jI pn_m7)) (C := RX5) (T := TX5) (N := 16) hx_ hb_ hts_ hin_ hown_ hM_.1 hP_ 0 rfl rfl 7 (by decide) (hts_ (.fieldLink RX5 145 "MusicHolesModel" "padLength" "I") (by decide +kernel)) (fun _ h9_ => h9_) rfl dX5_put_115 ?_
                    refine lv_lload_n hx_ hb_ dX5_put_118 rfl (lv_at hl_ 1 rfl) ?_
                    refine lv_bipush (v := jI 8) hx_ hb_ dX5_put_119 (by decide +kernel) ?_
                    refine lv_iload hx_ hb_ dX5_put_121 (lv_at hl_ 2 rfl) ?_
                    refine jx_imul hx_ hb_ dX5_put_123 ?_
                    refine lv_lushr (v := jlushr w1 (8 * v8)) hx_ hb_ dX5_put_124 rfl ?_
                    refine lv_ldc2 (v := 255) hx_ hb_ hown_ (hts_ (.constantLong RX5 212 (255)) (by decide +kernel)) dX5_put_125 ?_
                    refine lv_land hx_ hb_ dX5_put_128 ?_
                    refine lv_l2i (v := jI (jl2i ((jlushr w1 (8 * v8)) &&& 255))) hx_ hb_ dX5_put_129 (jI_of _).symm ?_
                    refine jx_iast hx_ hb_ hM_ hP_ hD_ hS_ 2 0 rfl rfl rfl (Nat.le_of_ble_eq_true rfl) h_ dX5_put_130 (fun H locs h_ hP_ hD_ hS_ => ?_)
                    have hP_ : va_P D vwCl [(wMo y a rc is_ (uI pd_m6 pn_m7 (jl2i ((jlushr w1 (8 * v8)) &&& 255))) pn_m7 ho eh mv at_ tk fs lt ea), (wAr y (a 6) 205 stf), (wAr y (a 7) 205 kpf), (wAr y (a 8) 1230 hsf), (wAr y (a 9) 410 slf)].flatten H := hP_
                    have hD_ : va_D A [(wMo y a rc is_ (uI pd_m6 pn_m7 (jl2i ((jlushr w1 (8 * v8)) &&& 255))) pn_m7 ho eh mv at_ tk fs lt ea), (wAr y (a 6) 205 stf), (wAr y (a 7) 205 kpf), (wAr y (a 8) 1230 hsf), (wAr y (a 9) 410 slf)].flatten := hD_
                    refine lv_aload_n hx_ hb_ dX5_put_131 rfl (lv_at hl_ 0 rfl) ?_
                    refine lv_dup hx_ hb_ dX5_put_132 rfl ?_
                    refine va_get (D := D) (ci := 5) (v := .int (jI pn_m7)) (C := RX5) (T := TX5) (N := 16) hx_ hb_ hts_ hin_ hown_ hM_.1 hP_ 0 rfl rfl 7 (by decide) (hts_ (.fieldLink RX5 145 "MusicHolesModel" "padLength" "I") (by decide +kernel)) (fun _ h9_ => h9_) rfl dX5_put_133 ?_
                    refine lv_iconst (v := jI 1) hx_ hb_ dX5_put_136 (by decide +kernel) ?_
                    refine jx_iadd hx_ hb_ dX5_put_137 ?_
                    refine va_put (D := D) (ci := 5) (v := .int (jI (pn_m7 + 1))) (ty := .int) (C := RX5) (T := TX5) (N := 16) hx_ hb_ hts_ hin_ tyX5 tyX5_ok nmX5 hown_ hM_.1 hP_ hD_ hS_ 0 rfl rfl 7 (by decide) (hts_ (.fieldLink RX5 145 "MusicHolesModel" "padLength" "I") (by decide +kernel)) (fun _ h9_ => h9_) rfl (by decide +kernel) rfl rfl (Nat.le_of_ble_eq_true rfl) dX5_put_138 (fun H locs hP_ hD_ hS_ => ?_)
                    have hP_ : va_P D vwCl [(wMo y a rc is_ (uI pd_m6 pn_m7 (jl2i ((jlushr w1 (8 * v8)) &&& 255))) (pn_m7 + 1) ho eh mv at_ tk fs lt ea), (wAr y (a 6) 205 stf), (wAr y (a 7) 205 kpf), (wAr y (a 8) 1230 hsf), (wAr y (a 9) 410 slf)].flatten H := hP_
                    have hD_ : va_D A [(wMo y a rc is_ (uI pd_m6 pn_m7 (jl2i ((jlushr w1 (8 * v8)) &&& 255))) (pn_m7 + 1) ho eh mv at_ tk fs lt ea), (wAr y (a 6) 205 stf), (wAr y (a 7) 205 kpf), (wAr y (a 8) 1230 hsf), (wAr y (a 9) 410 slf)].flatten := hD_
                    refine lv_iinc (v := jI (v8 + (-1))) (lv' := [(7, .int (jI (v8 + (-1)))), (0, .ref (a 0)), (1, .long w1)]) hx_ hb_ dX5_put_141 hl_ (k := 2) rfl (jI_add _ _) (by decide) rfl (fun ls hl_ => ?_)
                    refine lv_goto (tgt := 105) hx_ hb_ dX5_put_144 (by decide) ?_
                    exact ih105 _ _ _ _ _ ls h_ hP_ hD_ hS_ (lv_sub hl_ [1, 2, 0] rfl)
              exact hL105 fu _ _ _ _ _ ls h_ hP_ hD_ hS_ (lv_sub hl_ [1, 2, 0] rfl)
            · refine lv_bipush (v := jI (-4)) hx_ hb_ dX5_put_97 (by decide +kernel) ?_
              exact hE_ _ _ _ _ _ _ _ h_ dX5_put_99 hP_ hD_ hS_
          · refine lv_bipush (v := jI (-2)) hx_ hb_ dX5_put_83 (by decide +kernel) ?_
            exact hE_ _ _ _ _ _ _ _ h_ dX5_put_85 hP_ hD_ hS_
    have hL8 : ∀ n8 : Nat, ∀ (v9 : Int) (w10 : Int64) (v11 : Int) (H : Heap) (locs : List Loc) (ls : Array Slot), f_X5_put_L8 fu (f_X5_put_X67 fu pd pn w1) n8 v9 w10 v11 = some (rr, q_pd, q_pn) → va_P D vwCl [(wMo y a rc is_ pd pn ho eh mv at_ tk fs lt ea), (wAr y (a 6) 205 stf), (wAr y (a 7) 205 kpf), (wAr y (a 8) 1230 hsf), (wAr y (a 9) 410 slf)].flatten H → va_D A [(wMo y a rc is_ pd pn ho eh mv at_ tk fs lt ea), (wAr y (a 6) 205 stf), (wAr y (a 7) 205 kpf), (wAr y (a 8) 1230 hsf), (wAr y (a 9) 410 slf)].flatten → va_S A s.heap H locs → lv_has ls 8 [(0, .ref (a 0)), (1, .long w1), (3, .int (jI v9)), (4, .long w10), (6, .int (jI v11))] → W p l e R s m args below meth c H locs 0 0 Q (F0 m 8 ls []) := by
      intro n8
      induction n8 with
      | zero => intro _ _ _ H locs ls h_; have h_ : (none : Option (Int × (Int → Int) × Int)) = some (rr, q_pd, q_pn) := h_; cases h_
      | succ n8 ih8 =>
        intro v9 w10 v11 H locs ls h_ hP_ hD_ hS_ hl_
        replace h_ : f_X5_put_L8_b fu (f_X5_put_X67 fu pd pn w1) (f_X5_put_L8 fu (f_X5_put_X67 fu pd pn w1) n8) v9 w10 v11 = some (rr, q_pd, q_pn) := h_
        unfold f_X5_put_L8_b at h_
        refine lv_iload_n hx_ hb_ dX5_put_8 rfl (lv_at hl_ 2 rfl) ?_
        refine lv_bipush (v := jI 8) hx_ hb_ dX5_put_9 (by decide +kernel) ?_
        refine jx_icmp_ge (tgt := 67) hx_ hb_ h_ dX5_put_11 (by decide) (fun h_ => ?_) (fun h_ => ?_)
        · exact hX67 _ _ _ _ _ ls h_ hP_ hD_ hS_ (lv_sub hl_ [0, 1, 2, 3, 4] rfl)
        · refine lv_lload hx_ hb_ dX5_put_14 (lv_at hl_ 3 rfl) ?_
          refine lv_ldc2 (v := 255) hx_ hb_ hown_ (hts_ (.constantLong RX5 212 (255)) (by decide +kernel)) dX5_put_16 ?_
          refine lv_land hx_ hb_ dX5_put_19 ?_
          refine lv_lconst (v := 0) hx_ hb_ dX5_put_20 (by decide +kernel) ?_
          refine jx_lcmp hx_ hb_ dX5_put_21 ?_
          refine jx_if_eq (tgt := 67) hx_ hb_ h_ dX5_put_22 (by decide) (fun h_ => ?_) (fun h_ => ?_)
          · exact hX67 _ _ _ _ _ ls h_ hP_ hD_ hS_ (lv_sub hl_ [0, 1, 2, 3, 4] rfl)
          · refine lv_iload hx_ hb_ dX5_put_25 (lv_at hl_ 4 rfl) ?_
            have hJ52 : ∀ (v12 : Int) (H : Heap) (locs : List Loc) (ls : Array Slot), f_X5_put_J52 fu v9 w10 (f_X5_put_L8 fu (f_X5_put_X67 fu pd pn w1) n8) v12 = some (rr, q_pd, q_pn) → va_P D vwCl [(wMo y a rc is_ pd pn ho eh mv at_ tk fs lt ea), (wAr y (a 6) 205 stf), (wAr y (a 7) 205 kpf), (wAr y (a 8) 1230 hsf), (wAr y (a 9) 410 slf)].flatten H → va_D A [(wMo y a rc is_ pd pn ho eh mv at_ tk fs lt ea), (wAr y (a 6) 205 stf), (wAr y (a 7) 205 kpf), (wAr y (a 8) 1230 hsf), (wAr y (a 9) 410 slf)].flatten → va_S A s.heap H locs → lv_has ls 8 [(0, .ref (a 0)), (1, .long w1), (3, .int (jI v9)), (4, .long w10)] → W p l e R s m args below meth c H locs 0 0 Q (F0 m 52 ls [.int (jI v12)]) := by
              intro v12 H locs ls h_ hP_ hD_ hS_ hl_
              unfold f_X5_put_J52 at h_
              refine lv_istore (lv' := [(6, .int (jI v12)), (0, .ref (a 0)), (1, .long w1), (3, .int (jI v9)), (4, .long w10)]) hx_ hb_ dX5_put_52 hl_ (by decide) rfl (fun ls hl_ => ?_)
              refine lv_lload hx_ hb_ dX5_put_54 (lv_at hl_ 4 rfl) ?_
              refine lv_bipush (v := jI 8) hx_ hb_ dX5_put_56 (by decide +kernel) ?_
              refine lv_lushr (v := jlushr w10 8) hx_ hb_ dX5_put_58 rfl ?_
              refine lv_lstore (lv' := [(4, .long (jlushr w10 8)), (6, .int (jI v12)), (0, .ref (a 0)), (1, .long w1), (3, .int (jI v9))]) hx_ hb_ dX5_put_59 hl_ (by decide) rfl (fun ls hl_ => ?_)
              refine lv_iinc (v := jI (v9 + 1)) (lv' := [(3, .int (jI (v9 + 1))), (4, .long (jlushr w10 8)), (6, .int (jI v12)), (0, .ref (a 0)), (1, .long w1)]) hx_ hb_ dX5_put_61 hl_ (k := 4) rfl (jI_add _ _) (by decide) rfl (fun ls hl_ => ?_)
              refine lv_goto (tgt := 8) hx_ hb_ dX5_put_64 (by decide) ?_
              exact ih8 _ _ _ _ _ ls h_ hP_ hD_ hS_ (lv_sub hl_ [3, 4, 0, 1, 2] rfl)
            have hJ51 : ∀  (H : Heap) (locs : List Loc) (ls : Array Slot), f_X5_put_J51 fu v9 w10 (f_X5_put_L8 fu (f_X5_put_X67 fu pd pn w1) n8) = some (rr, q_pd, q_pn) → va_P D vwCl [(wMo y a rc is_ pd pn ho eh mv at_ tk fs lt ea), (wAr y (a 6) 205 stf), (wAr y (a 7) 205 kpf), (wAr y (a 8) 1230 hsf), (wAr y (a 9) 410 slf)].flatten H → va_D A [(wMo y a rc is_ pd pn ho eh mv at_ tk fs lt ea), (wAr y (a 6) 205 stf), (wAr y (a 7) 205 kpf), (wAr y (a 8) 1230 hsf), (wAr y (a 9) 410 slf)].flatten → va_S A s.heap H locs → lv_has ls 8 [(0, .ref (a 0)), (1, .long w1), (3, .int (jI v9)), (4, .long w10)] → W p l e R s m args below meth c H locs 0 0 Q (F0 m 51 ls []) := by
              intro  H locs ls h_ hP_ hD_ hS_ hl_
              unfold f_X5_put_J51 at h_
              refine lv_iconst (v := jI 0) hx_ hb_ dX5_put_51 (by decide +kernel) ?_
              exact hJ52 _ _ _ ls h_ hP_ hD_ hS_ (lv_sub hl_ [0, 1, 2, 3] rfl)
            refine jx_if_eq (tgt := 51) hx_ hb_ h_ dX5_put_27 (by decide) (fun h_ => ?_) (fun h_ => ?_)
            · exact hJ51  _ _ ls h_ hP_ hD_ hS_ (lv_sub hl_ [0, 1, 2, 3] rfl)
            · refine lv_lload hx_ hb_ dX5_put_30 (lv_at hl_ 3 rfl) ?_
              refine lv_ldc2 (v := 255) hx_ hb_ hown_ (hts_ (.constantLong RX5 212 (255)) (by decide +kernel)) dX5_put_32 ?_
              refine lv_land hx_ hb_ dX5_put_35 ?_
              refine lv_l2i (v := jI (jl2i (w10 &&& 255))) hx_ hb_ dX5_put_36 (jI_of _).symm ?_
              refine lv_bipush (v := jI 33) hx_ hb_ dX5_put_37 (by decide +kernel) ?_
              refine lv_bipush (v := jI 126) hx_ hb_ dX5_put_39 (by decide +kernel) ?_
              obtain ⟨v13, hv13, h_⟩ := jb_i h_
              refine jx_csi (b := 0) (C := "") (wr := [(wMo y a rc is_ pd pn ho eh mv at_ tk fs lt ea), (wAr y (a 6) 205 stf), (wAr y (a 7) 205 kpf), (wAr y (a 8) 1230 hsf), (wAr y (a 9) 410 slf)]) (cw := []) (cw1 := []) (cs1 := [(wMo y a rc is_ pd pn ho eh mv at_ tk fs lt ea), (wAr y (a 6) 205 stf), (wAr y (a 7) 205 kpf), (wAr y (a 8) 1230 hsf), (wAr y (a 9) 410 slf)]) (As := [.int (jI (jl2i (w10 &&& 255))), .int (jI 33), .int (jI 126)]) (rest := []) ⟨hx_, hb_, hml_, hown_, hts_⟩ hM_ hP_ hD_ hS_ hA_ (List.Perm.of_eq (List.append_nil _).symm) (List.Perm.of_eq (List.append_nil _)) (c_X5_within l D y z (jl2i (w10 &&& 255)) 33 126 fu v13 hv13) 3 (va_cwS 3 hts_ gX5_put_X5_within rfl rfl rfl (by decide +kernel) ⟨by rw [hR_]; exact Nat.le_of_ble_eq_true rfl, by rw [hR_]; exact Nat.le_of_ble_eq_true rfl⟩) rfl ⟨rfl, rfl⟩ ⟨by rw [hR_]; exact Nat.le_of_ble_eq_true rfl, by rw [hR_]; exact Nat.le_of_ble_eq_true rfl⟩ rfl rfl hl_.1 (Nat.le_of_ble_eq_true rfl) dX5_put_41 ⟨Nat.zero_le _, Nat.zero_le _⟩ (fun H locs hP_ hD_ hS_ => ?_)
              refine jx_if_eq (tgt := 51) hx_ hb_ h_ dX5_put_44 (by decide) (fun h_ => ?_) (fun h_ => ?_)
              · exact hJ51  _ _ ls h_ hP_ hD_ hS_ (lv_sub hl_ [0, 1, 2, 3] rfl)
              · refine lv_iconst (v := jI 1) hx_ hb_ dX5_put_47 (by decide +kernel) ?_
                refine lv_goto (tgt := 52) hx_ hb_ dX5_put_48 (by decide) ?_
                exact hJ52 _ _ _ ls h_ hP_ hD_ hS_ (lv_sub hl_ [0, 1, 2, 3] rfl)
    exact hL8 fu _ _ _ _ _ ls h_ hP_ hD_ hS_ (lv_sub hl_ [3, 4, 2, 1, 0] rfl)
  exact key_ _ (fun v9 pd9 pn9 H locs pc ls h9_ hdg_ hP_ hD_ hS_ => by cases h9_; exact jend_i hx_ hb_ hr_ hlocks_ hP_ hD_ hS_ hdg_)
def rm_X5_wipe : Room := { frames := 0, cells := 0, slots := 0, locals := 0 }
set_option maxRecDepth 100000 in
set_option maxHeartbeats 8000000 in
theorem c_X5_wipe (l : Launch) (D : va_G) (y : Nat → ClassId) (z : Nat → Nat) (a : Nat → Nat) (rc : Int) (is_ : Int → Int) (pd : Int → Int) (pn : Int) (ho : Int → Int) (eh : Int → Int) (mv : Int → Int) (at_ : Int) (tk : Int) (fs : Int) (lt : Int) (ea : Int) (stf : Int → Int) (kpf : Int → Int) (hsf : Int → Int) (slf : Int → Int)  (fu : Nat) (rr : Int) (q_pn : Int) (h_ : f_X5_wipe fu pn = some (rr, q_pn)) : jCI l D y z yX5_wipe wsX5_wipe rm_X5_wipe [.ref (a 0)] [(wMo y a rc is_ pd pn ho eh mv at_ tk fs lt ea), (wAr y (a 6) 205 stf), (wAr y (a 7) 205 kpf), (wAr y (a 8) 1230 hsf), (wAr y (a 9) 410 slf)] [(wMo y a rc is_ pd q_pn ho eh mv at_ tk fs lt ea), (wAr y (a 6) 205 stf), (wAr y (a 7) 205 kpf), (wAr y (a 8) 1230 hsf), (wAr y (a 9) 410 slf)] rr := by
  intro sz
  refine jmet (Qc := (fun A => va_Qi (fun v (_ : Unit) => v = jI rr) (jB D A [(wMo y a rc is_ pd q_pn ho eh mv at_ tk fs lt ea), (wAr y (a 6) 205 stf), (wAr y (a 7) 205 kpf), (wAr y (a 8) 1230 hsf), (wAr y (a 9) 410 slf)]) A)) (cc := cX5_wipe) (maxL := 2) (ret := (some .int)) (own := RX5) (by decide) rfl (Nat.le_of_ble_eq_true rfl) rfl (fun p e s m R args below meth c A ls hR_ hargs_ hx_ hb_ hr_ hlocks_ hml_ hown_ hts_ hname_ hsz_ hP_ hD_ hA_ hM_ hl_ => ?_)
  have key_ : ∀ Q : State → Prop, (∀ (v9 : Int) (pn9 : Int) (H : Heap) (locs : List Loc) (pc : Nat) (ls : Array Slot), some (v9, pn9) = some (rr, q_pn) → decode cX5_wipe pc = .ok (.ireturn, 1) → va_P D vwCl [(wMo y a rc is_ pd pn9 ho eh mv at_ tk fs lt ea), (wAr y (a 6) 205 stf), (wAr y (a 7) 205 kpf), (wAr y (a 8) 1230 hsf), (wAr y (a 9) 410 slf)].flatten H → va_D A [(wMo y a rc is_ pd pn9 ho eh mv at_ tk fs lt ea), (wAr y (a 6) 205 stf), (wAr y (a 7) 205 kpf), (wAr y (a 8) 1230 hsf), (wAr y (a 9) 410 slf)].flatten → va_S A s.heap H locs → W p l e R s m args below meth c H locs 0 0 Q (F0 m pc ls [.int (jI v9)])) → W p l e R s m args below meth c s.heap [] 0 0 Q (F0 m 0 ls []) := by
    intro Q hE_
    have hS_ : va_S A s.heap s.heap [] := va_S.rf
    have hl_ : lv_has ls 2 [(0, .ref (a 0))] := hl_
    have hin_ : ∀ w ∈ u_ws RX5 TX5 16, w ∈ wsX5_wipe := by decide +kernel
    unfold f_X5_wipe at h_
    refine lv_aload_n hx_ hb_ dX5_wipe_0 rfl (lv_at hl_ 0 rfl) ?_
    refine va_get (D := D) (ci := 5) (v := .int (jI pn)) (C := RX5) (T := TX5) (N := 16) hx_ hb_ hts_ hin_ hown_ hM_.1 hP_ 0 rfl rfl 7 (by decide) (hts_ (.fieldLink RX5 145 "MusicHolesModel" "padLength" "I") (by decide +kernel)) (fun _ h9_ => h9_) rfl dX5_wipe_1 ?_
    refine lv_istore_n (lv' := [(1, .int (jI pn)), (0, .ref (a 0))]) hx_ hb_ dX5_wipe_4 rfl hl_ (by decide) rfl (fun ls hl_ => ?_)
    refine lv_aload_n hx_ hb_ dX5_wipe_5 rfl (lv_at hl_ 1 rfl) ?_
    refine lv_iconst (v := jI 0) hx_ hb_ dX5_wipe_6 (by decide +kernel) ?_
    refine va_put (D := D) (ci := 5) (v := .int (jI 0)) (ty := .int) (C := RX5) (T := TX5) (N := 16) hx_ hb_ hts_ hin_ tyX5 tyX5_ok nmX5 hown_ hM_.1 hP_ hD_ hS_ 0 rfl rfl 7 (by decide) (hts_ (.fieldLink RX5 145 "MusicHolesModel" "padLength" "I") (by decide +kernel)) (fun _ h9_ => h9_) rfl (by decide +kernel) rfl rfl (Nat.le_of_ble_eq_true rfl) dX5_wipe_7 (fun H locs hP_ hD_ hS_ => ?_)
    have hP_ : va_P D vwCl [(wMo y a rc is_ pd 0 ho eh mv at_ tk fs lt ea), (wAr y (a 6) 205 stf), (wAr y (a 7) 205 kpf), (wAr y (a 8) 1230 hsf), (wAr y (a 9) 410 slf)].flatten H := hP_
    have hD_ : va_D A [(wMo y a rc is_ pd 0 ho eh mv at_ tk fs lt ea), (wAr y (a 6) 205 stf), (wAr y (a 7) 205 kpf), (wAr y (a 8) 1230 hsf), (wAr y (a 9) 410 slf)].flatten := hD_
    refine lv_iload_n hx_ hb_ dX5_wipe_10 rfl (lv_at hl_ 0 rfl) ?_
    exact hE_ _ _ _ _ _ _ h_ dX5_wipe_11 hP_ hD_ hS_
  exact key_ _ (fun v9 pn9 H locs pc ls h9_ hdg_ hP_ hD_ hS_ => by cases h9_; exact jend_i hx_ hb_ hr_ hlocks_ hP_ hD_ hS_ hdg_)
def rm_X5_fault : Room := { frames := 4, cells := 0, slots := 0, locals := 85 }
set_option maxRecDepth 100000 in
set_option maxHeartbeats 8000000 in
theorem c_X5_fault (l : Launch) (D : va_G) (y : Nat → ClassId) (z : Nat → Nat) (a : Nat → Nat) (rc : Int) (is_ : Int → Int) (pd : Int → Int) (pn : Int) (ho : Int → Int) (eh : Int → Int) (mv : Int → Int) (at_ : Int) (tk : Int) (fs : Int) (lt : Int) (ea : Int) (stf : Int → Int) (kpf : Int → Int) (hsf : Int → Int) (slf : Int → Int)  (fu : Nat) (rr : Int) (q_at_ : Int) (q_tk : Int) (q_fs : Int) (q_lt : Int) (q_ea : Int) (h_ : f_X5_fault fu pd pn at_ tk fs lt ea = some (rr, q_at_, q_tk, q_fs, q_lt, q_ea)) : jCI l D y z yX5_fault wsX5_fault rm_X5_fault [.ref (a 0)] [(wMo y a rc is_ pd pn ho eh mv at_ tk fs lt ea), (wAr y (a 6) 205 stf), (wAr y (a 7) 205 kpf), (wAr y (a 8) 1230 hsf), (wAr y (a 9) 410 slf)] [(wMo y a rc is_ pd pn ho eh mv q_at_ q_tk q_fs q_lt q_ea), (wAr y (a 6) 205 stf), (wAr y (a 7) 205 kpf), (wAr y (a 8) 1230 hsf), (wAr y (a 9) 410 slf)] rr := by
  intro sz
  refine jmet (Qc := (fun A => va_Qi (fun v (_ : Unit) => v = jI rr) (jB D A [(wMo y a rc is_ pd pn ho eh mv q_at_ q_tk q_fs q_lt q_ea), (wAr y (a 6) 205 stf), (wAr y (a 7) 205 kpf), (wAr y (a 8) 1230 hsf), (wAr y (a 9) 410 slf)]) A)) (cc := cX5_fault) (maxL := 1) (ret := (some .int)) (own := RX5) (by decide) rfl (Nat.le_of_ble_eq_true rfl) rfl (fun p e s m R args below meth c A ls hR_ hargs_ hx_ hb_ hr_ hlocks_ hml_ hown_ hts_ hname_ hsz_ hP_ hD_ hA_ hM_ hl_ => ?_)
  have key_ : ∀ Q : State → Prop, (∀ (v9 : Int) (at_9 : Int) (tk9 : Int) (fs9 : Int) (lt9 : Int) (ea9 : Int) (H : Heap) (locs : List Loc) (pc : Nat) (ls : Array Slot), some (v9, at_9, tk9, fs9, lt9, ea9) = some (rr, q_at_, q_tk, q_fs, q_lt, q_ea) → decode cX5_fault pc = .ok (.ireturn, 1) → va_P D vwCl [(wMo y a rc is_ pd pn ho eh mv at_9 tk9 fs9 lt9 ea9), (wAr y (a 6) 205 stf), (wAr y (a 7) 205 kpf), (wAr y (a 8) 1230 hsf), (wAr y (a 9) 410 slf)].flatten H → va_D A [(wMo y a rc is_ pd pn ho eh mv at_9 tk9 fs9 lt9 ea9), (wAr y (a 6) 205 stf), (wAr y (a 7) 205 kpf), (wAr y (a 8) 1230 hsf), (wAr y (a 9) 410 slf)].flatten → va_S A s.heap H locs → W p l e R s m args below meth c H locs 0 0 Q (F0 m pc ls [.int (jI v9)])) → W p l e R s m args below meth c s.heap [] 0 0 Q (F0 m 0 ls []) := by
    intro Q hE_
    have hS_ : va_S A s.heap s.heap [] := va_S.rf
    have hl_ : lv_has ls 1 [(0, .ref (a 0))] := hl_
    have hin_ : ∀ w ∈ u_ws RX5 TX5 16, w ∈ wsX5_fault := by decide +kernel
    unfold f_X5_fault at h_
    refine lv_aload_n hx_ hb_ dX5_fault_0 rfl (lv_at hl_ 0 rfl) ?_
    obtain ⟨v1, at__m2, tk_m3, fs_m4, lt_m5, ea_m6, hv1, h_⟩ := jb6_i h_
    refine jx_cvi (wr := []) (cw := [(wMo y a rc is_ pd pn ho eh mv at_ tk fs lt ea), (wAr y (a 6) 205 stf), (wAr y (a 7) 205 kpf), (wAr y (a 8) 1230 hsf), (wAr y (a 9) 410 slf)]) (cw1 := [(wMo y a rc is_ pd pn ho eh mv at__m2 tk_m3 fs_m4 lt_m5 ea_m6), (wAr y (a 6) 205 stf), (wAr y (a 7) 205 kpf), (wAr y (a 8) 1230 hsf), (wAr y (a 9) 410 slf)]) (cs1 := [(wMo y a rc is_ pd pn ho eh mv at__m2 tk_m3 fs_m4 lt_m5 ea_m6), (wAr y (a 6) 205 stf), (wAr y (a 7) 205 kpf), (wAr y (a 8) 1230 hsf), (wAr y (a 9) 410 slf)]) (As := []) (rest := []) ⟨hx_, hb_, hml_, hown_, hts_⟩ hM_ hP_ hD_ hS_ hA_ (List.Perm.refl _) (List.Perm.refl _) (c_X5_findFault l D y z a rc is_ pd pn ho eh mv at_ tk fs lt ea stf kpf hsf slf fu v1 at__m2 tk_m3 fs_m4 lt_m5 ea_m6 hv1) 0 gX5_fault_X5_findFault rfl ⟨rfl, rfl⟩ (by decide +kernel) ⟨by rw [hR_]; exact Nat.le_of_ble_eq_true rfl, by rw [hR_]; exact Nat.le_of_ble_eq_true rfl⟩ 0 5 rfl rfl rfl rfl rfl hl_.1 (Nat.le_of_ble_eq_true rfl) dX5_fault_1 ⟨Nat.zero_le _, Nat.zero_le _⟩ (fun H locs hP_ hD_ hS_ => ?_)
    exact hE_ _ _ _ _ _ _ _ _ _ _ h_ dX5_fault_4 hP_ hD_ hS_
  exact key_ _ (fun v9 at_9 tk9 fs9 lt9 ea9 H locs pc ls h9_ hdg_ hP_ hD_ hS_ => by cases h9_; exact jend_i hx_ hb_ hr_ hlocks_ hP_ hD_ hS_ hdg_)
def rm_X5_undo : Room := { frames := 1, cells := 0, slots := 0, locals := 24 }
set_option maxRecDepth 100000 in
set_option maxHeartbeats 8000000 in
theorem c_X5_undo (l : Launch) (D : va_G) (y : Nat → ClassId) (z : Nat → Nat) (a : Nat → Nat) (rc : Int) (is_ : Int → Int) (pd : Int → Int) (pn : Int) (ho : Int → Int) (eh : Int → Int) (mv : Int → Int) (at_ : Int) (tk : Int) (fs : Int) (lt : Int) (ea : Int) (stf : Int → Int) (kpf : Int → Int) (hsf : Int → Int) (slf : Int → Int)  (fu : Nat) (rr : Int) (q_rc : Int) (q_stf : Int → Int) (h_ : f_X5_undo fu rc stf hsf = some (rr, q_rc, q_stf)) : jCI l D y z yX5_undo wsX5_undo rm_X5_undo [.ref (a 0)] [(wMo y a rc is_ pd pn ho eh mv at_ tk fs lt ea), (wAr y (a 6) 205 stf), (wAr y (a 7) 205 kpf), (wAr y (a 8) 1230 hsf), (wAr y (a 9) 410 slf)] [(wMo y a q_rc is_ pd pn ho eh mv at_ tk fs lt ea), (wAr y (a 6) 205 q_stf), (wAr y (a 7) 205 kpf), (wAr y (a 8) 1230 hsf), (wAr y (a 9) 410 slf)] rr := by
  intro sz
  refine jmet (Qc := (fun A => va_Qi (fun v (_ : Unit) => v = jI rr) (jB D A [(wMo y a q_rc is_ pd pn ho eh mv at_ tk fs lt ea), (wAr y (a 6) 205 q_stf), (wAr y (a 7) 205 kpf), (wAr y (a 8) 1230 hsf), (wAr y (a 9) 410 slf)]) A)) (cc := cX5_undo) (maxL := 1) (ret := (some .int)) (own := RX5) (by decide) rfl (Nat.le_of_ble_eq_true rfl) rfl (fun p e s m R args below meth c A ls hR_ hargs_ hx_ hb_ hr_ hlocks_ hml_ hown_ hts_ hname_ hsz_ hP_ hD_ hA_ hM_ hl_ => ?_)
  have key_ : ∀ Q : State → Prop, (∀ (v9 : Int) (rc9 : Int) (stf9 : Int → Int) (H : Heap) (locs : List Loc) (pc : Nat) (ls : Array Slot), some (v9, rc9, stf9) = some (rr, q_rc, q_stf) → decode cX5_undo pc = .ok (.ireturn, 1) → va_P D vwCl [(wMo y a rc9 is_ pd pn ho eh mv at_ tk fs lt ea), (wAr y (a 6) 205 stf9), (wAr y (a 7) 205 kpf), (wAr y (a 8) 1230 hsf), (wAr y (a 9) 410 slf)].flatten H → va_D A [(wMo y a rc9 is_ pd pn ho eh mv at_ tk fs lt ea), (wAr y (a 6) 205 stf9), (wAr y (a 7) 205 kpf), (wAr y (a 8) 1230 hsf), (wAr y (a 9) 410 slf)].flatten → va_S A s.heap H locs → W p l e R s m args below meth c H locs 0 0 Q (F0 m pc ls [.int (jI v9)])) → W p l e R s m args below meth c s.heap [] 0 0 Q (F0 m 0 ls []) := by
    intro Q hE_
    have hS_ : va_S A s.heap s.heap [] := va_S.rf
    have hl_ : lv_has ls 1 [(0, .ref (a 0))] := hl_
    have hin_ : ∀ w ∈ u_ws RX5 TX5 16, w ∈ wsX5_undo := by decide +kernel
    unfold f_X5_undo at h_
    refine lv_aload_n hx_ hb_ dX5_undo_0 rfl (lv_at hl_ 0 rfl) ?_
    refine va_get (D := D) (ci := 5) (v := .int (jI rc)) (C := RX5) (T := TX5) (N := 16) hx_ hb_ hts_ hin_ hown_ hM_.1 hP_ 0 rfl rfl 3 (by decide) (hts_ (.fieldLink RX5 37 "MusicHolesModel" "recorded" "I") (by decide +kernel)) (fun _ h9_ => h9_) rfl dX5_undo_1 ?_
    refine jx_if_ne (tgt := 10) hx_ hb_ h_ dX5_undo_4 (by decide) (fun h_ => ?_) (fun h_ => ?_)
    · refine lv_aload_n hx_ hb_ dX5_undo_10 rfl (lv_at hl_ 0 rfl) ?_
      refine lv_dup hx_ hb_ dX5_undo_11 rfl ?_
      refine va_get (D := D) (ci := 5) (v := .int (jI rc)) (C := RX5) (T := TX5) (N := 16) hx_ hb_ hts_ hin_ hown_ hM_.1 hP_ 0 rfl rfl 3 (by decide) (hts_ (.fieldLink RX5 37 "MusicHolesModel" "recorded" "I") (by decide +kernel)) (fun _ h9_ => h9_) rfl dX5_undo_12 ?_
      refine lv_iconst (v := jI 1) hx_ hb_ dX5_undo_15 (by decide +kernel) ?_
      refine jx_isub hx_ hb_ dX5_undo_16 ?_
      refine va_put (D := D) (ci := 5) (v := .int (jI (rc - 1))) (ty := .int) (C := RX5) (T := TX5) (N := 16) hx_ hb_ hts_ hin_ tyX5 tyX5_ok nmX5 hown_ hM_.1 hP_ hD_ hS_ 0 rfl rfl 3 (by decide) (hts_ (.fieldLink RX5 37 "MusicHolesModel" "recorded" "I") (by decide +kernel)) (fun _ h9_ => h9_) rfl (by decide +kernel) rfl rfl (Nat.le_of_ble_eq_true rfl) dX5_undo_17 (fun H locs hP_ hD_ hS_ => ?_)
      have hP_ : va_P D vwCl [(wMo y a (rc - 1) is_ pd pn ho eh mv at_ tk fs lt ea), (wAr y (a 6) 205 stf), (wAr y (a 7) 205 kpf), (wAr y (a 8) 1230 hsf), (wAr y (a 9) 410 slf)].flatten H := hP_
      have hD_ : va_D A [(wMo y a (rc - 1) is_ pd pn ho eh mv at_ tk fs lt ea), (wAr y (a 6) 205 stf), (wAr y (a 7) 205 kpf), (wAr y (a 8) 1230 hsf), (wAr y (a 9) 410 slf)].flatten := hD_
      refine lv_aload_n hx_ hb_ dX5_undo_20 rfl (lv_at hl_ 0 rfl) ?_
      refine va_get (D := D) (ci := 5) (v := .ref (a 8)) (C := RX5) (T := TX5) (N := 16) hx_ hb_ hts_ hin_ hown_ hM_.1 hP_ 0 rfl rfl 2 (by decide) (hts_ (.fieldLink RX5 16 "MusicHolesModel" "history" "[I") (by decide +kernel)) (fun _ h9_ => h9_) rfl dX5_undo_21 ?_
      refine lv_aload_n hx_ hb_ dX5_undo_24 rfl (lv_at hl_ 0 rfl) ?_
      refine va_get (D := D) (ci := 5) (v := .int (jI (rc - 1))) (C := RX5) (T := TX5) (N := 16) hx_ hb_ hts_ hin_ hown_ hM_.1 hP_ 0 rfl rfl 3 (by decide) (hts_ (.fieldLink RX5 37 "MusicHolesModel" "recorded" "I") (by decide +kernel)) (fun _ h9_ => h9_) rfl dX5_undo_25 ?_
      refine lv_sipush (v := jI 205) hx_ hb_ dX5_undo_28 (by decide +kernel) ?_
      refine jx_imul hx_ hb_ dX5_undo_31 ?_
      refine lv_aload_n hx_ hb_ dX5_undo_32 rfl (lv_at hl_ 0 rfl) ?_
      refine va_get (D := D) (ci := 5) (v := .ref (a 6)) (C := RX5) (T := TX5) (N := 16) hx_ hb_ hts_ hin_ hown_ hM_.1 hP_ 0 rfl rfl 0 (by decide) (hts_ (.fieldLink RX5 7 "MusicHolesModel" "state" "[I") (by decide +kernel)) (fun _ h9_ => h9_) rfl dX5_undo_33 ?_
      refine lv_iconst (v := jI 0) hx_ hb_ dX5_undo_36 (by decide +kernel) ?_
      obtain ⟨q2f_m1, hq2f_m1, h_⟩ := jb_i h_
      refine jx_csv (b := 0) (C := "") (rv := 0) (wr := [(wMo y a (rc - 1) is_ pd pn ho eh mv at_ tk fs lt ea), (wAr y (a 7) 205 kpf), (wAr y (a 9) 410 slf)]) (cw := [(wAr y (a 8) 1230 hsf), (wAr y (a 6) 205 stf)]) (cw1 := [(wAr y (a 8) 1230 hsf), (wAr y (a 6) 205 q2f_m1)]) (cs1 := [(wMo y a (rc - 1) is_ pd pn ho eh mv at_ tk fs lt ea), (wAr y (a 6) 205 q2f_m1), (wAr y (a 7) 205 kpf), (wAr y (a 8) 1230 hsf), (wAr y (a 9) 410 slf)]) (As := [.ref (a 8), .int (jI ((rc - 1) * 205)), .ref (a 6), .int (jI 0)]) (rest := []) ⟨hx_, hb_, hml_, hown_, hts_⟩ hM_ hP_ hD_ hS_ hA_ (jperm 5 [0, 2, 4, 3, 1] rfl (by decide) rfl) (jperm 5 [0, 4, 1, 3, 2] rfl (by decide) rfl) (c_X5_moves l D y z (a 8) (a 6) 1230 (Nat.le_of_ble_eq_true rfl) 205 (Nat.le_of_ble_eq_true rfl) hsf stf ((rc - 1) * 205) 0 fu q2f_m1 hq2f_m1) 4 (va_cwS 4 hts_ gX5_undo_X5_moves rfl rfl rfl (by decide +kernel) ⟨by rw [hR_]; exact Nat.le_of_ble_eq_true rfl, by rw [hR_]; exact Nat.le_of_ble_eq_true rfl⟩) rfl ⟨rfl, rfl⟩ ⟨by rw [hR_]; exact Nat.le_of_ble_eq_true rfl, by rw [hR_]; exact Nat.le_of_ble_eq_true rfl⟩ rfl rfl hl_.1 (Nat.le_of_ble_eq_true rfl) dX5_undo_37 ⟨Nat.zero_le _, Nat.zero_le _⟩ (fun H locs hP_ hD_ hS_ => ?_)
      refine lv_aload_n hx_ hb_ dX5_undo_40 rfl (lv_at hl_ 0 rfl) ?_
      refine va_get (D := D) (ci := 5) (v := .int (jI (rc - 1))) (C := RX5) (T := TX5) (N := 16) hx_ hb_ hts_ hin_ hown_ hM_.1 hP_ 0 rfl rfl 3 (by decide) (hts_ (.fieldLink RX5 37 "MusicHolesModel" "recorded" "I") (by decide +kernel)) (fun _ h9_ => h9_) rfl dX5_undo_41 ?_
      exact hE_ _ _ _ _ _ _ _ h_ dX5_undo_44 hP_ hD_ hS_
    · refine lv_bipush (v := jI (-5)) hx_ hb_ dX5_undo_7 (by decide +kernel) ?_
      exact hE_ _ _ _ _ _ _ _ h_ dX5_undo_9 hP_ hD_ hS_
  exact key_ _ (fun v9 rc9 stf9 H locs pc ls h9_ hdg_ hP_ hD_ hS_ => by cases h9_; exact jend_i hx_ hb_ hr_ hlocks_ hP_ hD_ hS_ hdg_)
def rm_X5_save : Room := { frames := 1, cells := 0, slots := 0, locals := 24 }
set_option maxRecDepth 100000 in
set_option maxHeartbeats 8000000 in
theorem c_X5_save (l : Launch) (D : va_G) (y : Nat → ClassId) (z : Nat → Nat) (a : Nat → Nat) (rc : Int) (is_ : Int → Int) (pd : Int → Int) (pn : Int) (ho : Int → Int) (eh : Int → Int) (mv : Int → Int) (at_ : Int) (tk : Int) (fs : Int) (lt : Int) (ea : Int) (stf : Int → Int) (kpf : Int → Int) (hsf : Int → Int) (slf : Int → Int) (x1 : Int) (fu : Nat) (rr : Int) (q_is_ : Int → Int) (q_slf : Int → Int) (h_ : f_X5_save fu is_ stf slf x1 = some (rr, q_is_, q_slf)) : jCI l D y z yX5_save wsX5_save rm_X5_save [.ref (a 0), .int (jI x1)] [(wMo y a rc is_ pd pn ho eh mv at_ tk fs lt ea), (wAr y (a 6) 205 stf), (wAr y (a 7) 205 kpf), (wAr y (a 8) 1230 hsf), (wAr y (a 9) 410 slf)] [(wMo y a rc q_is_ pd pn ho eh mv at_ tk fs lt ea), (wAr y (a 6) 205 stf), (wAr y (a 7) 205 kpf), (wAr y (a 8) 1230 hsf), (wAr y (a 9) 410 q_slf)] rr := by
  intro sz
  refine jmet (Qc := (fun A => va_Qi (fun v (_ : Unit) => v = jI rr) (jB D A [(wMo y a rc q_is_ pd pn ho eh mv at_ tk fs lt ea), (wAr y (a 6) 205 stf), (wAr y (a 7) 205 kpf), (wAr y (a 8) 1230 hsf), (wAr y (a 9) 410 q_slf)]) A)) (cc := cX5_save) (maxL := 2) (ret := (some .int)) (own := RX5) (by decide) rfl (Nat.le_of_ble_eq_true rfl) rfl (fun p e s m R args below meth c A ls hR_ hargs_ hx_ hb_ hr_ hlocks_ hml_ hown_ hts_ hname_ hsz_ hP_ hD_ hA_ hM_ hl_ => ?_)
  have key_ : ∀ Q : State → Prop, (∀ (v9 : Int) (is_9 : Int → Int) (slf9 : Int → Int) (H : Heap) (locs : List Loc) (pc : Nat) (ls : Array Slot), some (v9, is_9, slf9) = some (rr, q_is_, q_slf) → decode cX5_save pc = .ok (.ireturn, 1) → va_P D vwCl [(wMo y a rc is_9 pd pn ho eh mv at_ tk fs lt ea), (wAr y (a 6) 205 stf), (wAr y (a 7) 205 kpf), (wAr y (a 8) 1230 hsf), (wAr y (a 9) 410 slf9)].flatten H → va_D A [(wMo y a rc is_9 pd pn ho eh mv at_ tk fs lt ea), (wAr y (a 6) 205 stf), (wAr y (a 7) 205 kpf), (wAr y (a 8) 1230 hsf), (wAr y (a 9) 410 slf9)].flatten → va_S A s.heap H locs → W p l e R s m args below meth c H locs 0 0 Q (F0 m pc ls [.int (jI v9)])) → W p l e R s m args below meth c s.heap [] 0 0 Q (F0 m 0 ls []) := by
    intro Q hE_
    have hS_ : va_S A s.heap s.heap [] := va_S.rf
    have hl_ : lv_has ls 2 [(0, .ref (a 0)), (1, .int (jI x1))] := hl_
    have hin_ : ∀ w ∈ u_ws RX5 TX5 16, w ∈ wsX5_save := by decide +kernel
    unfold f_X5_save at h_
    refine lv_iload_n hx_ hb_ dX5_save_0 rfl (lv_at hl_ 1 rfl) ?_
    refine lv_iconst (v := jI 0) hx_ hb_ dX5_save_1 (by decide +kernel) ?_
    refine lv_iconst (v := jI 1) hx_ hb_ dX5_save_2 (by decide +kernel) ?_
    obtain ⟨v1, hv1, h_⟩ := jb_i h_
    refine jx_csi (b := 0) (C := "") (wr := [(wMo y a rc is_ pd pn ho eh mv at_ tk fs lt ea), (wAr y (a 6) 205 stf), (wAr y (a 7) 205 kpf), (wAr y (a 8) 1230 hsf), (wAr y (a 9) 410 slf)]) (cw := []) (cw1 := []) (cs1 := [(wMo y a rc is_ pd pn ho eh mv at_ tk fs lt ea), (wAr y (a 6) 205 stf), (wAr y (a 7) 205 kpf), (wAr y (a 8) 1230 hsf), (wAr y (a 9) 410 slf)]) (As := [.int (jI x1), .int (jI 0), .int (jI 1)]) (rest := []) ⟨hx_, hb_, hml_, hown_, hts_⟩ hM_ hP_ hD_ hS_ hA_ (List.Perm.of_eq (List.append_nil _).symm) (List.Perm.of_eq (List.append_nil _)) (c_X5_within l D y z x1 0 1 fu v1 hv1) 3 (va_cwS 3 hts_ gX5_save_X5_within rfl rfl rfl (by decide +kernel) ⟨by rw [hR_]; exact Nat.le_of_ble_eq_true rfl, by rw [hR_]; exact Nat.le_of_ble_eq_true rfl⟩) rfl ⟨rfl, rfl⟩ ⟨by rw [hR_]; exact Nat.le_of_ble_eq_true rfl, by rw [hR_]; exact Nat.le_of_ble_eq_true rfl⟩ rfl rfl hl_.1 (Nat.le_of_ble_eq_true rfl) dX5_save_3 ⟨Nat.zero_le _, Nat.zero_le _⟩ (fun H locs hP_ hD_ hS_ => ?_)
    refine jx_if_ne (tgt := 12) hx_ hb_ h_ dX5_save_6 (by decide) (fun h_ => ?_) (fun h_ => ?_)
    · refine lv_aload_n hx_ hb_ dX5_save_12 rfl (lv_at hl_ 0 rfl) ?_
      refine va_get (D := D) (ci := 5) (v := .ref (a 6)) (C := RX5) (T := TX5) (N := 16) hx_ hb_ hts_ hin_ hown_ hM_.1 hP_ 0 rfl rfl 0 (by decide) (hts_ (.fieldLink RX5 7 "MusicHolesModel" "state" "[I") (by decide +kernel)) (fun _ h9_ => h9_) rfl dX5_save_13 ?_
      refine lv_iconst (v := jI 0) hx_ hb_ dX5_save_16 (by decide +kernel) ?_
      refine lv_aload_n hx_ hb_ dX5_save_17 rfl (lv_at hl_ 0 rfl) ?_
      refine va_get (D := D) (ci := 5) (v := .ref (a 9)) (C := RX5) (T := TX5) (N := 16) hx_ hb_ hts_ hin_ hown_ hM_.1 hP_ 0 rfl rfl 4 (by decide) (hts_ (.fieldLink RX5 19 "MusicHolesModel" "slots" "[I") (by decide +kernel)) (fun _ h9_ => h9_) rfl dX5_save_18 ?_
      refine lv_sipush (v := jI 205) hx_ hb_ dX5_save_21 (by decide +kernel) ?_
      refine lv_iload_n hx_ hb_ dX5_save_24 rfl (lv_at hl_ 1 rfl) ?_
      refine jx_imul hx_ hb_ dX5_save_25 ?_
      obtain ⟨q2f_m2, hq2f_m2, h_⟩ := jb_i h_
      refine jx_csv (b := 0) (C := "") (rv := 0) (wr := [(wMo y a rc is_ pd pn ho eh mv at_ tk fs lt ea), (wAr y (a 7) 205 kpf), (wAr y (a 8) 1230 hsf)]) (cw := [(wAr y (a 6) 205 stf), (wAr y (a 9) 410 slf)]) (cw1 := [(wAr y (a 6) 205 stf), (wAr y (a 9) 410 q2f_m2)]) (cs1 := [(wMo y a rc is_ pd pn ho eh mv at_ tk fs lt ea), (wAr y (a 6) 205 stf), (wAr y (a 7) 205 kpf), (wAr y (a 8) 1230 hsf), (wAr y (a 9) 410 q2f_m2)]) (As := [.ref (a 6), .int (jI 0), .ref (a 9), .int (jI (205 * x1))]) (rest := []) ⟨hx_, hb_, hml_, hown_, hts_⟩ hM_ hP_ hD_ hS_ hA_ (jperm 5 [0, 2, 3, 1, 4] rfl (by decide) rfl) (jperm 5 [0, 3, 1, 2, 4] rfl (by decide) rfl) (c_X5_moves l D y z (a 6) (a 9) 205 (Nat.le_of_ble_eq_true rfl) 410 (Nat.le_of_ble_eq_true rfl) stf slf 0 (205 * x1) fu q2f_m2 hq2f_m2) 4 (va_cwS 4 hts_ gX5_save_X5_moves rfl rfl rfl (by decide +kernel) ⟨by rw [hR_]; exact Nat.le_of_ble_eq_true rfl, by rw [hR_]; exact Nat.le_of_ble_eq_true rfl⟩) rfl ⟨rfl, rfl⟩ ⟨by rw [hR_]; exact Nat.le_of_ble_eq_true rfl, by rw [hR_]; exact Nat.le_of_ble_eq_true rfl⟩ rfl rfl hl_.1 (Nat.le_of_ble_eq_true rfl) dX5_save_26 ⟨Nat.zero_le _, Nat.zero_le _⟩ (fun H locs hP_ hD_ hS_ => ?_)
      refine lv_aload_n hx_ hb_ dX5_save_29 rfl (lv_at hl_ 0 rfl) ?_
      refine va_get (D := D) (ci := 5) (v := .ref (a 1)) (C := RX5) (T := TX5) (N := 16) hx_ hb_ hts_ hin_ hown_ hM_.1 hP_ 0 rfl rfl 5 (by decide) (hts_ (.fieldLink RX5 22 "MusicHolesModel" "isSaved" "[I") (by decide +kernel)) (fun _ h9_ => h9_) rfl dX5_save_30 ?_
      refine lv_iload_n hx_ hb_ dX5_save_33 rfl (lv_at hl_ 1 rfl) ?_
      refine lv_iconst (v := jI 1) hx_ hb_ dX5_save_34 (by decide +kernel) ?_
      refine jx_iast hx_ hb_ hM_ hP_ hD_ hS_ 1 0 rfl rfl rfl (Nat.le_of_ble_eq_true rfl) h_ dX5_save_35 (fun H locs h_ hP_ hD_ hS_ => ?_)
      have hP_ : va_P D vwCl [(wMo y a rc (uI is_ x1 1) pd pn ho eh mv at_ tk fs lt ea), (wAr y (a 6) 205 stf), (wAr y (a 7) 205 kpf), (wAr y (a 8) 1230 hsf), (wAr y (a 9) 410 q2f_m2)].flatten H := hP_
      have hD_ : va_D A [(wMo y a rc (uI is_ x1 1) pd pn ho eh mv at_ tk fs lt ea), (wAr y (a 6) 205 stf), (wAr y (a 7) 205 kpf), (wAr y (a 8) 1230 hsf), (wAr y (a 9) 410 q2f_m2)].flatten := hD_
      refine lv_aload_n hx_ hb_ dX5_save_36 rfl (lv_at hl_ 0 rfl) ?_
      refine va_get (D := D) (ci := 5) (v := .ref (a 6)) (C := RX5) (T := TX5) (N := 16) hx_ hb_ hts_ hin_ hown_ hM_.1 hP_ 0 rfl rfl 0 (by decide) (hts_ (.fieldLink RX5 7 "MusicHolesModel" "state" "[I") (by decide +kernel)) (fun _ h9_ => h9_) rfl dX5_save_37 ?_
      refine lv_iconst (v := jI 4) hx_ hb_ dX5_save_40 (by decide +kernel) ?_
      refine jx_iald hx_ hb_ hM_ hP_ 6 0 rfl rfl rfl (Nat.le_of_ble_eq_true rfl) h_ dX5_save_41 (fun h_ => ?_)
      exact hE_ _ _ _ _ _ _ _ h_ dX5_save_42 hP_ hD_ hS_
    · refine lv_bipush (v := jI (-2)) hx_ hb_ dX5_save_9 (by decide +kernel) ?_
      exact hE_ _ _ _ _ _ _ _ h_ dX5_save_11 hP_ hD_ hS_
  exact key_ _ (fun v9 is_9 slf9 H locs pc ls h9_ hdg_ hP_ hD_ hS_ => by cases h9_; exact jend_i hx_ hb_ hr_ hlocks_ hP_ hD_ hS_ hdg_)
