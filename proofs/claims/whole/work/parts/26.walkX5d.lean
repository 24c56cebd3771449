def rm_X5_whyNotCopied : Room := { frames := 3, cells := 0, slots := 0, locals := 69 }
set_option maxRecDepth 100000 in
set_option maxHeartbeats 8000000 in
theorem c_X5_whyNotCopied (l : Launch) (D : va_G) (y : Nat → ClassId) (z : Nat → Nat) (a : Nat → Nat) (rc : Int) (is_ : Int → Int) (pd : Int → Int) (pn : Int) (ho : Int → Int) (eh : Int → Int) (mv : Int → Int) (at_ : Int) (tk : Int) (fs : Int) (lt : Int) (ea : Int) (stf : Int → Int) (kpf : Int → Int) (hsf : Int → Int) (slf : Int → Int) (x1 : Int) (x2 : Int) (x3 : Int) (fu : Nat) (rr : Int) (h_ : f_X5_whyNotCopied fu stf x1 x2 x3 = some rr) : jCI l D y z yX5_whyNotCopied wsX5_whyNotCopied rm_X5_whyNotCopied [.ref (a 0), .int (jI x1), .int (jI x2), .int (jI x3)] [(wMo y a rc is_ pd pn ho eh mv at_ tk fs lt ea), (wAr y (a 6) 205 stf), (wAr y (a 7) 205 kpf), (wAr y (a 8) 1230 hsf), (wAr y (a 9) 410 slf)] [(wMo y a rc is_ pd pn ho eh mv at_ tk fs lt ea), (wAr y (a 6) 205 stf), (wAr y (a 7) 205 kpf), (wAr y (a 8) 1230 hsf), (wAr y (a 9) 410 slf)] rr := by
  intro sz
  refine jmet (Qc := (fun A => va_Qi (fun v (_ : Unit) => v = jI rr) (jB D A [(wMo y a rc is_ pd pn ho eh mv at_ tk fs lt ea), (wAr y (a 6) 205 stf), (wAr y (a 7) 205 kpf), (wAr y (a 8) 1230 hsf), (wAr y (a 9) 410 slf)]) A)) (cc := cX5_whyNotCopied) (maxL := 8) (ret := (some .int)) (own := RX5) (by decide) rfl (Nat.le_of_ble_eq_true rfl) rfl (fun p e s m R args below meth c A ls hR_ hargs_ hx_ hb_ hr_ hlocks_ hml_ hown_ hts_ hname_ hsz_ hP_ hD_ hA_ hM_ hl_ => ?_)
  have key_ : ∀ Q : State → Prop, (∀ (v9 : Int) (H : Heap) (locs : List Loc) (pc : Nat) (ls : Array Slot), some v9 = some rr → decode cX5_whyNotCopied pc = .ok (.ireturn, 1) → va_P D vwCl [(wMo y a rc is_ pd pn ho eh mv at_ tk fs lt ea), (wAr y (a 6) 205 stf), (wAr y (a 7) 205 kpf), (wAr y (a 8) 1230 hsf), (wAr y (a 9) 410 slf)].flatten H → va_D A [(wMo y a rc is_ pd pn ho eh mv at_ tk fs lt ea), (wAr y (a 6) 205 stf), (wAr y (a 7) 205 kpf), (wAr y (a 8) 1230 hsf), (wAr y (a 9) 410 slf)].flatten → va_S A s.heap H locs → W p l e R s m args below meth c H locs 0 0 Q (F0 m pc ls [.int (jI v9)])) → W p l e R s m args below meth c s.heap [] 0 0 Q (F0 m 0 ls []) := by
    intro Q hE_
    have hS_ : va_S A s.heap s.heap [] := va_S.rf
    have hl_ : lv_has ls 8 [(0, .ref (a 0)), (1, .int (jI x1)), (2, .int (jI x2)), (3, .int (jI x3))] := hl_
    have hin_ : ∀ w ∈ u_ws RX5 TX5 16, w ∈ wsX5_whyNotCopied := by decide +kernel
    unfold f_X5_whyNotCopied at h_
    refine lv_aload_n hx_ hb_ dX5_whyNotCopied_0 rfl (lv_at hl_ 0 rfl) ?_
    refine va_get (D := D) (ci := 5) (v := .ref (a 6)) (C := RX5) (T := TX5) (N := 16) hx_ hb_ hts_ hin_ hown_ hM_.1 hP_ 0 rfl rfl 0 (by decide) (hts_ (.fieldLink RX5 7 "MusicHolesModel" "state" "[I") (by decide +kernel)) (fun _ h9_ => h9_) rfl dX5_whyNotCopied_1 ?_
    refine lv_iconst (v := jI 4) hx_ hb_ dX5_whyNotCopied_4 (by decide +kernel) ?_
    refine jx_iald hx_ hb_ hM_ hP_ 6 0 rfl rfl rfl (Nat.le_of_ble_eq_true rfl) h_ dX5_whyNotCopied_5 (fun h_ => ?_)
    refine lv_aload_n hx_ hb_ dX5_whyNotCopied_6 rfl (lv_at hl_ 0 rfl) ?_
    refine lv_iload_n hx_ hb_ dX5_whyNotCopied_7 rfl (lv_at hl_ 1 rfl) ?_
    refine lv_iload_n hx_ hb_ dX5_whyNotCopied_8 rfl (lv_at hl_ 2 rfl) ?_
    obtain ⟨v1, hv1, h_⟩ := jb_i h_
    refine jx_cvi (wr := []) (cw := [(wMo y a rc is_ pd pn ho eh mv at_ tk fs lt ea), (wAr y (a 6) 205 stf), (wAr y (a 7) 205 kpf), (wAr y (a 8) 1230 hsf), (wAr y (a 9) 410 slf)]) (cw1 := [(wMo y a rc is_ pd pn ho eh mv at_ tk fs lt ea), (wAr y (a 6) 205 stf), (wAr y (a 7) 205 kpf), (wAr y (a 8) 1230 hsf), (wAr y (a 9) 410 slf)]) (cs1 := [(wMo y a rc is_ pd pn ho eh mv at_ tk fs lt ea), (wAr y (a 6) 205 stf), (wAr y (a 7) 205 kpf), (wAr y (a 8) 1230 hsf), (wAr y (a 9) 410 slf)]) (As := [.int (jI x1), .int (jI x2)]) (rest := [.int (jI (stf 4))]) ⟨hx_, hb_, hml_, hown_, hts_⟩ hM_ hP_ hD_ hS_ hA_ (List.Perm.refl _) (List.Perm.refl _) (c_X5_betweenMany l D y z a rc is_ pd pn ho eh mv at_ tk fs lt ea stf kpf hsf slf x1 x2 fu v1 hv1) 2 gX5_whyNotCopied_X5_betweenMany rfl ⟨rfl, rfl⟩ (by decide +kernel) ⟨by rw [hR_]; exact Nat.le_of_ble_eq_true rfl, by rw [hR_]; exact Nat.le_of_ble_eq_true rfl⟩ 0 5 rfl rfl rfl rfl rfl hl_.1 (Nat.le_of_ble_eq_true rfl) dX5_whyNotCopied_9 ⟨Nat.zero_le _, Nat.zero_le _⟩ (fun H locs hP_ hD_ hS_ => ?_)
    refine jx_iadd hx_ hb_ dX5_whyNotCopied_12 ?_
    refine lv_bipush (v := jI 40) hx_ hb_ dX5_whyNotCopied_13 (by decide +kernel) ?_
    refine jx_icmp_le (tgt := 21) hx_ hb_ h_ dX5_whyNotCopied_15 (by decide) (fun h_ => ?_) (fun h_ => ?_)
    · refine lv_iconst (v := jI 1) hx_ hb_ dX5_whyNotCopied_21 (by decide +kernel) ?_
      refine lv_istore (lv' := [(4, .int (jI 1)), (0, .ref (a 0)), (1, .int (jI x1)), (2, .int (jI x2)), (3, .int (jI x3))]) hx_ hb_ dX5_whyNotCopied_22 hl_ (by decide) rfl (fun ls hl_ => ?_)
      refine lv_iconst (v := jI 0) hx_ hb_ dX5_whyNotCopied_24 (by decide +kernel) ?_
      refine lv_istore (lv' := [(5, .int (jI 0)), (4, .int (jI 1)), (0, .ref (a 0)), (1, .int (jI x1)), (2, .int (jI x2)), (3, .int (jI x3))]) hx_ hb_ dX5_whyNotCopied_25 hl_ (by decide) rfl (fun ls hl_ => ?_)
      have hX125 : ∀ (v2 : Int) (H : Heap) (locs : List Loc) (ls : Array Slot), f_X5_whyNotCopied_X125 fu v2 = some rr → va_P D vwCl [(wMo y a rc is_ pd pn ho eh mv at_ tk fs lt ea), (wAr y (a 6) 205 stf), (wAr y (a 7) 205 kpf), (wAr y (a 8) 1230 hsf), (wAr y (a 9) 410 slf)].flatten H → va_D A [(wMo y a rc is_ pd pn ho eh mv at_ tk fs lt ea), (wAr y (a 6) 205 stf), (wAr y (a 7) 205 kpf), (wAr y (a 8) 1230 hsf), (wAr y (a 9) 410 slf)].flatten → va_S A s.heap H locs → lv_has ls 8 [(4, .int (jI v2))] → W p l e R s m args below meth c H locs 0 0 Q (F0 m 125 ls []) := by
        intro v2 H locs ls h_ hP_ hD_ hS_ hl_
        unfold f_X5_whyNotCopied_X125 at h_
        refine lv_iload hx_ hb_ dX5_whyNotCopied_125 (lv_at hl_ 0 rfl) ?_
        refine jx_if_eq (tgt := 134) hx_ hb_ h_ dX5_whyNotCopied_127 (by decide) (fun h_ => ?_) (fun h_ => ?_)
        · refine lv_bipush (v := jI (-5)) hx_ hb_ dX5_whyNotCopied_134 (by decide +kernel) ?_
          exact hE_ _ _ _ _ _ h_ dX5_whyNotCopied_136 hP_ hD_ hS_
        · refine lv_iconst (v := jI 0) hx_ hb_ dX5_whyNotCopied_130 (by decide +kernel) ?_
          refine lv_goto (tgt := 136) hx_ hb_ dX5_whyNotCopied_131 (by decide) ?_
          exact hE_ _ _ _ _ _ h_ dX5_whyNotCopied_136 hP_ hD_ hS_
      have hL27 : ∀ n27 : Nat, ∀ (v3 : Int) (v4 : Int) (H : Heap) (locs : List Loc) (ls : Array Slot), f_X5_whyNotCopied_L27 fu stf x1 x2 x3 (f_X5_whyNotCopied_X125 fu) n27 v3 v4 = some rr → va_P D vwCl [(wMo y a rc is_ pd pn ho eh mv at_ tk fs lt ea), (wAr y (a 6) 205 stf), (wAr y (a 7) 205 kpf), (wAr y (a 8) 1230 hsf), (wAr y (a 9) 410 slf)].flatten H → va_D A [(wMo y a rc is_ pd pn ho eh mv at_ tk fs lt ea), (wAr y (a 6) 205 stf), (wAr y (a 7) 205 kpf), (wAr y (a 8) 1230 hsf), (wAr y (a 9) 410 slf)].flatten → va_S A s.heap H locs → lv_has ls 8 [(0, .ref (a 0)), (1, .int (jI x1)), (2, .int (jI x2)), (3, .int (jI x3)), (4, .int (jI v3)), (5, .int (jI v4))] → W p l e R s m args below meth c H locs 0 0 Q (F0 m 27 ls []) := by
        intro n27
        induction n27 with
        | zero => intro _ _ H locs ls h_; have h_ : (none : Option (Int)) = some rr := h_; cases h_
        | succ n27 ih27 =>
          intro v3 v4 H locs ls h_ hP_ hD_ hS_ hl_
          replace h_ : f_X5_whyNotCopied_L27_b fu stf x1 x2 x3 (f_X5_whyNotCopied_X125 fu) (f_X5_whyNotCopied_L27 fu stf x1 x2 x3 (f_X5_whyNotCopied_X125 fu) n27) v3 v4 = some rr := h_
          unfold f_X5_whyNotCopied_L27_b at h_
          refine lv_iload hx_ hb_ dX5_whyNotCopied_27 (lv_at hl_ 5 rfl) ?_
          refine lv_aload_n hx_ hb_ dX5_whyNotCopied_29 rfl (lv_at hl_ 0 rfl) ?_
          refine va_get (D := D) (ci := 5) (v := .ref (a 6)) (C := RX5) (T := TX5) (N := 16) hx_ hb_ hts_ hin_ hown_ hM_.1 hP_ 0 rfl rfl 0 (by decide) (hts_ (.fieldLink RX5 7 "MusicHolesModel" "state" "[I") (by decide +kernel)) (fun _ h9_ => h9_) rfl dX5_whyNotCopied_30 ?_
          refine lv_iconst (v := jI 4) hx_ hb_ dX5_whyNotCopied_33 (by decide +kernel) ?_
          refine jx_iald hx_ hb_ hM_ hP_ 6 0 rfl rfl rfl (Nat.le_of_ble_eq_true rfl) h_ dX5_whyNotCopied_34 (fun h_ => ?_)
          refine jx_icmp_ge (tgt := 125) hx_ hb_ h_ dX5_whyNotCopied_35 (by decide) (fun h_ => ?_) (fun h_ => ?_)
          · exact hX125 _ _ _ ls h_ hP_ hD_ hS_ (lv_sub hl_ [4] rfl)
          · refine lv_iload_n hx_ hb_ dX5_whyNotCopied_38 rfl (lv_at hl_ 3 rfl) ?_
            refine lv_iload_n hx_ hb_ dX5_whyNotCopied_39 rfl (lv_at hl_ 1 rfl) ?_
            refine jx_isub hx_ hb_ dX5_whyNotCopied_40 ?_
            refine lv_istore (lv' := [(6, .int (jI (x3 - x1))), (0, .ref (a 0)), (1, .int (jI x1)), (2, .int (jI x2)), (3, .int (jI x3)), (4, .int (jI v3)), (5, .int (jI v4))]) hx_ hb_ dX5_whyNotCopied_41 hl_ (by decide) rfl (fun ls hl_ => ?_)
            refine lv_aload_n hx_ hb_ dX5_whyNotCopied_43 rfl (lv_at hl_ 1 rfl) ?_
            refine lv_iload hx_ hb_ dX5_whyNotCopied_44 (lv_at hl_ 6 rfl) ?_
            refine lv_iload_n hx_ hb_ dX5_whyNotCopied_46 rfl (lv_at hl_ 2 rfl) ?_
            refine lv_iload_n hx_ hb_ dX5_whyNotCopied_47 rfl (lv_at hl_ 3 rfl) ?_
            obtain ⟨v5, hv5, h_⟩ := jb_i h_
            refine jx_cvi (wr := []) (cw := [(wMo y a rc is_ pd pn ho eh mv at_ tk fs lt ea), (wAr y (a 6) 205 stf), (wAr y (a 7) 205 kpf), (wAr y (a 8) 1230 hsf), (wAr y (a 9) 410 slf)]) (cw1 := [(wMo y a rc is_ pd pn ho eh mv at_ tk fs lt ea), (wAr y (a 6) 205 stf), (wAr y (a 7) 205 kpf), (wAr y (a 8) 1230 hsf), (wAr y (a 9) 410 slf)]) (cs1 := [(wMo y a rc is_ pd pn ho eh mv at_ tk fs lt ea), (wAr y (a 6) 205 stf), (wAr y (a 7) 205 kpf), (wAr y (a 8) 1230 hsf), (wAr y (a 9) 410 slf)]) (As := [.int (jI v4), .int (jI x1), .int (jI x2)]) (rest := []) ⟨hx_, hb_, hml_, hown_, hts_⟩ hM_ hP_ hD_ hS_ hA_ (List.Perm.refl _) (List.Perm.refl _) (c_X5_isBetween l D y z a rc is_ pd pn ho eh mv at_ tk fs lt ea stf kpf hsf slf v4 x1 x2 fu v5 hv5) 3 gX5_whyNotCopied_X5_isBetween rfl ⟨rfl, rfl⟩ (by decide +kernel) ⟨by rw [hR_]; exact Nat.le_of_ble_eq_true rfl, by rw [hR_]; exact Nat.le_of_ble_eq_true rfl⟩ 0 5 rfl rfl rfl rfl rfl hl_.1 (Nat.le_of_ble_eq_true rfl) dX5_whyNotCopied_48 ⟨Nat.zero_le _, Nat.zero_le _⟩ (fun H locs hP_ hD_ hS_ => ?_)
            refine lv_istore (lv' := [(7, .int (jI v5)), (6, .int (jI (x3 - x1))), (0, .ref (a 0)), (1, .int (jI x1)), (2, .int (jI x2)), (3, .int (jI x3)), (4, .int (jI v3)), (5, .int (jI v4))]) hx_ hb_ dX5_whyNotCopied_51 hl_ (by decide) rfl (fun ls hl_ => ?_)
            refine lv_iload hx_ hb_ dX5_whyNotCopied_53 (lv_at hl_ 6 rfl) ?_
            refine jx_if_eq (tgt := 116) hx_ hb_ h_ dX5_whyNotCopied_55 (by decide) (fun h_ => ?_) (fun h_ => ?_)
            · refine lv_iconst (v := jI 0) hx_ hb_ dX5_whyNotCopied_116 (by decide +kernel) ?_
              refine lv_istore (lv' := [(4, .int (jI 0)), (7, .int (jI v5)), (6, .int (jI (x3 - x1))), (0, .ref (a 0)), (1, .int (jI x1)), (2, .int (jI x2)), (3, .int (jI x3)), (5, .int (jI v4))]) hx_ hb_ dX5_whyNotCopied_117 hl_ (by decide) rfl (fun ls hl_ => ?_)
              refine lv_iinc (v := jI (v4 + 1)) (lv' := [(5, .int (jI (v4 + 1))), (4, .int (jI 0)), (7, .int (jI v5)), (6, .int (jI (x3 - x1))), (0, .ref (a 0)), (1, .int (jI x1)), (2, .int (jI x2)), (3, .int (jI x3))]) hx_ hb_ dX5_whyNotCopied_119 hl_ (k := 7) rfl (jI_add _ _) (by decide) rfl (fun ls hl_ => ?_)
              refine lv_goto (tgt := 27) hx_ hb_ dX5_whyNotCopied_122 (by decide) ?_
              exact ih27 _ _ _ _ ls h_ hP_ hD_ hS_ (lv_sub hl_ [4, 5, 6, 7, 1, 0] rfl)
            · refine lv_iload hx_ hb_ dX5_whyNotCopied_58 (lv_at hl_ 0 rfl) ?_
              refine jx_if_eq (tgt := 112) hx_ hb_ h_ dX5_whyNotCopied_60 (by decide) (fun h_ => ?_) (fun h_ => ?_)
              · refine lv_iconst (v := jI 1) hx_ hb_ dX5_whyNotCopied_112 (by decide +kernel) ?_
                refine lv_goto (tgt := 117) hx_ hb_ dX5_whyNotCopied_113 (by decide) ?_
                refine lv_istore (lv' := [(4, .int (jI 1)), (7, .int (jI v5)), (6, .int (jI (x3 - x1))), (0, .ref (a 0)), (1, .int (jI x1)), (2, .int (jI x2)), (3, .int (jI x3)), (5, .int (jI v4))]) hx_ hb_ dX5_whyNotCopied_117 hl_ (by decide) rfl (fun ls hl_ => ?_)
                refine lv_iinc (v := jI (v4 + 1)) (lv' := [(5, .int (jI (v4 + 1))), (4, .int (jI 1)), (7, .int (jI v5)), (6, .int (jI (x3 - x1))), (0, .ref (a 0)), (1, .int (jI x1)), (2, .int (jI x2)), (3, .int (jI x3))]) hx_ hb_ dX5_whyNotCopied_119 hl_ (k := 7) rfl (jI_add _ _) (by decide) rfl (fun ls hl_ => ?_)
                refine lv_goto (tgt := 27) hx_ hb_ dX5_whyNotCopied_122 (by decide) ?_
                exact ih27 _ _ _ _ ls h_ hP_ hD_ hS_ (lv_sub hl_ [4, 5, 6, 7, 1, 0] rfl)
              · refine lv_aload_n hx_ hb_ dX5_whyNotCopied_63 rfl (lv_at hl_ 2 rfl) ?_
                refine lv_iload hx_ hb_ dX5_whyNotCopied_64 (lv_at hl_ 7 rfl) ?_
                refine lv_iconst (v := jI 2) hx_ hb_ dX5_whyNotCopied_66 (by decide +kernel) ?_
                obtain ⟨v6, hv6, h_⟩ := jb_i h_
                refine jx_cvi (wr := []) (cw := [(wMo y a rc is_ pd pn ho eh mv at_ tk fs lt ea), (wAr y (a 6) 205 stf), (wAr y (a 7) 205 kpf), (wAr y (a 8) 1230 hsf), (wAr y (a 9) 410 slf)]) (cw1 := [(wMo y a rc is_ pd pn ho eh mv at_ tk fs lt ea), (wAr y (a 6) 205 stf), (wAr y (a 7) 205 kpf), (wAr y (a 8) 1230 hsf), (wAr y (a 9) 410 slf)]) (cs1 := [(wMo y a rc is_ pd pn ho eh mv at_ tk fs lt ea), (wAr y (a 6) 205 stf), (wAr y (a 7) 205 kpf), (wAr y (a 8) 1230 hsf), (wAr y (a 9) 410 slf)]) (As := [.int (jI v4), .int (jI 2)]) (rest := []) ⟨hx_, hb_, hml_, hown_, hts_⟩ hM_ hP_ hD_ hS_ hA_ (List.Perm.refl _) (List.Perm.refl _) (c_X5_part l D y z a rc is_ pd pn ho eh mv at_ tk fs lt ea stf kpf hsf slf v4 2 fu v6 hv6) 2 gX5_whyNotCopied_X5_part rfl ⟨rfl, rfl⟩ (by decide +kernel) ⟨by rw [hR_]; exact Nat.le_of_ble_eq_true rfl, by rw [hR_]; exact Nat.le_of_ble_eq_true rfl⟩ 0 5 rfl rfl rfl rfl rfl hl_.1 (Nat.le_of_ble_eq_true rfl) dX5_whyNotCopied_67 ⟨Nat.zero_le _, Nat.zero_le _⟩ (fun H locs hP_ hD_ hS_ => ?_)
                refine lv_iload hx_ hb_ dX5_whyNotCopied_70 (lv_at hl_ 1 rfl) ?_
                refine jx_iadd hx_ hb_ dX5_whyNotCopied_72 ?_
                refine lv_bipush (v := jI 100) hx_ hb_ dX5_whyNotCopied_73 (by decide +kernel) ?_
                refine jx_icmp_ge (tgt := 116) hx_ hb_ h_ dX5_whyNotCopied_75 (by decide) (fun h_ => ?_) (fun h_ => ?_)
                · refine lv_iconst (v := jI 0) hx_ hb_ dX5_whyNotCopied_116 (by decide +kernel) ?_
                  refine lv_istore (lv' := [(4, .int (jI 0)), (7, .int (jI v5)), (6, .int (jI (x3 - x1))), (0, .ref (a 0)), (1, .int (jI x1)), (2, .int (jI x2)), (3, .int (jI x3)), (5, .int (jI v4))]) hx_ hb_ dX5_whyNotCopied_117 hl_ (by decide) rfl (fun ls hl_ => ?_)
                  refine lv_iinc (v := jI (v4 + 1)) (lv' := [(5, .int (jI (v4 + 1))), (4, .int (jI 0)), (7, .int (jI v5)), (6, .int (jI (x3 - x1))), (0, .ref (a 0)), (1, .int (jI x1)), (2, .int (jI x2)), (3, .int (jI x3))]) hx_ hb_ dX5_whyNotCopied_119 hl_ (k := 7) rfl (jI_add _ _) (by decide) rfl (fun ls hl_ => ?_)
                  refine lv_goto (tgt := 27) hx_ hb_ dX5_whyNotCopied_122 (by decide) ?_
                  exact ih27 _ _ _ _ ls h_ hP_ hD_ hS_ (lv_sub hl_ [4, 5, 6, 7, 1, 0] rfl)
                · refine lv_aload_n hx_ hb_ dX5_whyNotCopied_78 rfl (lv_at hl_ 2 rfl) ?_
                  refine lv_aload_n hx_ hb_ dX5_whyNotCopied_79 rfl (lv_at hl_ 2 rfl) ?_
                  refine lv_iload hx_ hb_ dX5_whyNotCopied_80 (lv_at hl_ 7 rfl) ?_
                  refine lv_iconst (v := jI 0) hx_ hb_ dX5_whyNotCopied_82 (by decide +kernel) ?_
                  obtain ⟨v7, hv7, h_⟩ := jb_i h_
                  refine jx_cvi (wr := []) (cw := [(wMo y a rc is_ pd pn ho eh mv at_ tk fs lt ea), (wAr y (a 6) 205 stf), (wAr y (a 7) 205 kpf), (wAr y (a 8) 1230 hsf), (wAr y (a 9) 410 slf)]) (cw1 := [(wMo y a rc is_ pd pn ho eh mv at_ tk fs lt ea), (wAr y (a 6) 205 stf), (wAr y (a 7) 205 kpf), (wAr y (a 8) 1230 hsf), (wAr y (a 9) 410 slf)]) (cs1 := [(wMo y a rc is_ pd pn ho eh mv at_ tk fs lt ea), (wAr y (a 6) 205 stf), (wAr y (a 7) 205 kpf), (wAr y (a 8) 1230 hsf), (wAr y (a 9) 410 slf)]) (As := [.int (jI v4), .int (jI 0)]) (rest := [.ref (a 0)]) ⟨hx_, hb_, hml_, hown_, hts_⟩ hM_ hP_ hD_ hS_ hA_ (List.Perm.refl _) (List.Perm.refl _) (c_X5_part l D y z a rc is_ pd pn ho eh mv at_ tk fs lt ea stf kpf hsf slf v4 0 fu v7 hv7) 2 gX5_whyNotCopied_X5_part rfl ⟨rfl, rfl⟩ (by decide +kernel) ⟨by rw [hR_]; exact Nat.le_of_ble_eq_true rfl, by rw [hR_]; exact Nat.le_of_ble_eq_true rfl⟩ 0 5 rfl rfl rfl rfl rfl hl_.1 (Nat.le_of_ble_eq_true rfl) dX5_whyNotCopied_83 ⟨Nat.zero_le _, Nat.zero_le _⟩ (fun H locs hP_ hD_ hS_ => ?_)
                  refine lv_aload_n hx_ hb_ dX5_whyNotCopied_86 rfl (lv_at hl_ 2 rfl) ?_
                  refine lv_iload hx_ hb_ dX5_whyNotCopied_87 (lv_at hl_ 7 rfl) ?_
                  refine lv_iconst (v := jI 1) hx_ hb_ dX5_whyNotCopied_89 (by decide +kernel) ?_
                  obtain ⟨v8, hv8, h_⟩ := jb_i h_
                  refine jx_cvi (wr := []) (cw := [(wMo y a rc is_ pd pn ho eh mv at_ tk fs lt ea), (wAr y (a 6) 205 stf), (wAr y (a 7) 205 kpf), (wAr y (a 8) 1230 hsf), (wAr y (a 9) 410 slf)]) (cw1 := [(wMo y a rc is_ pd pn ho eh mv at_ tk fs lt ea), (wAr y (a 6) 205 stf), (wAr y (a 7) 205 kpf), (wAr y (a 8) 1230 hsf), (wAr y (a 9) 410 slf)]) (cs1 := [(wMo y a rc is_ pd pn ho eh mv at_ tk fs lt ea), (wAr y (a 6) 205 stf), (wAr y (a 7) 205 kpf), (wAr y (a 8) 1230 hsf), (wAr y (a 9) 410 slf)]) (As := [.int (jI v4), .int (jI 1)]) (rest := [.int (jI v7), .ref (a 0)]) ⟨hx_, hb_, hml_, hown_, hts_⟩ hM_ hP_ hD_ hS_ hA_ (List.Perm.refl _) (List.Perm.refl _) (c_X5_part l D y z a rc is_ pd pn ho eh mv at_ tk fs lt ea stf kpf hsf slf v4 1 fu v8 hv8) 2 gX5_whyNotCopied_X5_part rfl ⟨rfl, rfl⟩ (by decide +kernel) ⟨by rw [hR_]; exact Nat.le_of_ble_eq_true rfl, by rw [hR_]; exact Nat.le_of_ble_eq_true rfl⟩ 0 5 rfl rfl rfl rfl rfl hl_.1 (Nat.le_of_ble_eq_true rfl) dX5_whyNotCopied_90 ⟨Nat.zero_le _, Nat.zero_le _⟩ (fun H locs hP_ hD_ hS_ => ?_)
                  refine lv_iload hx_ hb_ dX5_whyNotCopied_93 (lv_at hl_ 1 rfl) ?_
                  refine jx_iadd hx_ hb_ dX5_whyNotCopied_95 ?_
                  refine lv_aload_n hx_ hb_ dX5_whyNotCopied_96 rfl (lv_at hl_ 2 rfl) ?_
                  refine lv_iload hx_ hb_ dX5_whyNotCopied_97 (lv_at hl_ 7 rfl) ?_
                  refine lv_iconst (v := jI 2) hx_ hb_ dX5_whyNotCopied_99 (by decide +kernel) ?_
                  obtain ⟨v9, hv9, h_⟩ := jb_i h_
                  refine jx_cvi (wr := []) (cw := [(wMo y a rc is_ pd pn ho eh mv at_ tk fs lt ea), (wAr y (a 6) 205 stf), (wAr y (a 7) 205 kpf), (wAr y (a 8) 1230 hsf), (wAr y (a 9) 410 slf)]) (cw1 := [(wMo y a rc is_ pd pn ho eh mv at_ tk fs lt ea), (wAr y (a 6) 205 stf), (wAr y (a 7) 205 kpf), (wAr y (a 8) 1230 hsf), (wAr y (a 9) 410 slf)]) (cs1 := [(wMo y a rc is_ pd pn ho eh mv at_ tk fs lt ea), (wAr y (a 6) 205 stf), (wAr y (a 7) 205 kpf), (wAr y (a 8) 1230 hsf), (wAr y (a 9) 410 slf)]) (As := [.int (jI v4), .int (jI 2)]) (rest := [.int (jI (v8 + (x3 - x1))), .int (jI v7), .ref (a 0)]) ⟨hx_, hb_, hml_, hown_, hts_⟩ hM_ hP_ hD_ hS_ hA_ (List.Perm.refl _) (List.Perm.refl _) (c_X5_part l D y z a rc is_ pd pn ho eh mv at_ tk fs lt ea stf kpf hsf slf v4 2 fu v9 hv9) 2 gX5_whyNotCopied_X5_part rfl ⟨rfl, rfl⟩ (by decide +kernel) ⟨by rw [hR_]; exact Nat.le_of_ble_eq_true rfl, by rw [hR_]; exact Nat.le_of_ble_eq_true rfl⟩ 0 5 rfl rfl rfl rfl rfl hl_.1 (Nat.le_of_ble_eq_true rfl) dX5_whyNotCopied_100 ⟨Nat.zero_le _, Nat.zero_le _⟩ (fun H locs hP_ hD_ hS_ => ?_)
                  refine lv_iload hx_ hb_ dX5_whyNotCopied_103 (lv_at hl_ 1 rfl) ?_
                  refine jx_iadd hx_ hb_ dX5_whyNotCopied_105 ?_
                  obtain ⟨v10, hv10, h_⟩ := jb_i h_
                  refine jx_cvi (wr := []) (cw := [(wMo y a rc is_ pd pn ho eh mv at_ tk fs lt ea), (wAr y (a 6) 205 stf), (wAr y (a 7) 205 kpf), (wAr y (a 8) 1230 hsf), (wAr y (a 9) 410 slf)]) (cw1 := [(wMo y a rc is_ pd pn ho eh mv at_ tk fs lt ea), (wAr y (a 6) 205 stf), (wAr y (a 7) 205 kpf), (wAr y (a 8) 1230 hsf), (wAr y (a 9) 410 slf)]) (cs1 := [(wMo y a rc is_ pd pn ho eh mv at_ tk fs lt ea), (wAr y (a 6) 205 stf), (wAr y (a 7) 205 kpf), (wAr y (a 8) 1230 hsf), (wAr y (a 9) 410 slf)]) (As := [.int (jI v7), .int (jI (v8 + (x3 - x1))), .int (jI (v9 + (x3 - x1)))]) (rest := []) ⟨hx_, hb_, hml_, hown_, hts_⟩ hM_ hP_ hD_ hS_ hA_ (List.Perm.refl _) (List.Perm.refl _) (c_X5_isTaken l D y z a rc is_ pd pn ho eh mv at_ tk fs lt ea stf kpf hsf slf v7 (v8 + (x3 - x1)) (v9 + (x3 - x1)) fu v10 hv10) 3 gX5_whyNotCopied_X5_isTaken rfl ⟨rfl, rfl⟩ (by decide +kernel) ⟨by rw [hR_]; exact Nat.le_of_ble_eq_true rfl, by rw [hR_]; exact Nat.le_of_ble_eq_true rfl⟩ 0 5 rfl rfl rfl rfl rfl hl_.1 (Nat.le_of_ble_eq_true rfl) dX5_whyNotCopied_106 ⟨Nat.zero_le _, Nat.zero_le _⟩ (fun H locs hP_ hD_ hS_ => ?_)
                  refine jx_if_ne (tgt := 116) hx_ hb_ h_ dX5_whyNotCopied_109 (by decide) (fun h_ => ?_) (fun h_ => ?_)
                  · refine lv_iconst (v := jI 0) hx_ hb_ dX5_whyNotCopied_116 (by decide +kernel) ?_
                    refine lv_istore (lv' := [(4, .int (jI 0)), (7, .int (jI v5)), (6, .int (jI (x3 - x1))), (0, .ref (a 0)), (1, .int (jI x1)), (2, .int (jI x2)), (3, .int (jI x3)), (5, .int (jI v4))]) hx_ hb_ dX5_whyNotCopied_117 hl_ (by decide) rfl (fun ls hl_ => ?_)
                    refine lv_iinc (v := jI (v4 + 1)) (lv' := [(5, .int (jI (v4 + 1))), (4, .int (jI 0)), (7, .int (jI v5)), (6, .int (jI (x3 - x1))), (0, .ref (a 0)), (1, .int (jI x1)), (2, .int (jI x2)), (3, .int (jI x3))]) hx_ hb_ dX5_whyNotCopied_119 hl_ (k := 7) rfl (jI_add _ _) (by decide) rfl (fun ls hl_ => ?_)
                    refine lv_goto (tgt := 27) hx_ hb_ dX5_whyNotCopied_122 (by decide) ?_
                    exact ih27 _ _ _ _ ls h_ hP_ hD_ hS_ (lv_sub hl_ [4, 5, 6, 7, 1, 0] rfl)
                  · refine lv_iconst (v := jI 1) hx_ hb_ dX5_whyNotCopied_112 (by decide +kernel) ?_
                    refine lv_goto (tgt := 117) hx_ hb_ dX5_whyNotCopied_113 (by decide) ?_
                    refine lv_istore (lv' := [(4, .int (jI 1)), (7, .int (jI v5)), (6, .int (jI (x3 - x1))), (0, .ref (a 0)), (1, .int (jI x1)), (2, .int (jI x2)), (3, .int (jI x3)), (5, .int (jI v4))]) hx_ hb_ dX5_whyNotCopied_117 hl_ (by decide) rfl (fun ls hl_ => ?_)
                    refine lv_iinc (v := jI (v4 + 1)) (lv' := [(5, .int (jI (v4 + 1))), (4, .int (jI 1)), (7, .int (jI v5)), (6, .int (jI (x3 - x1))), (0, .ref (a 0)), (1, .int (jI x1)), (2, .int (jI x2)), (3, .int (jI x3))]) hx_ hb_ dX5_whyNotCopied_119 hl_ (k := 7) rfl (jI_add _ _) (by decide) rfl (fun ls hl_ => ?_)
                    refine lv_goto (tgt := 27) hx_ hb_ dX5_whyNotCopied_122 (by decide) ?_
                    exact ih27 _ _ _ _ ls h_ hP_ hD_ hS_ (lv_sub hl_ [4, 5, 6, 7, 1, 0] rfl)
      exact hL27 fu _ _ _ _ ls h_ hP_ hD_ hS_ (lv_sub hl_ [2, 3, 4, 5, 1, 0] rfl)
    · refine lv_bipush (v := jI (-4)) hx_ hb_ dX5_whyNotCopied_18 (by decide +kernel) ?_
      exact hE_ _ _ _ _ _ h_ dX5_whyNotCopied_20 hP_ hD_ hS_
  exact key_ _ (fun v9 H locs pc ls h9_ hdg_ hP_ hD_ hS_ => by cases h9_; exact jend_i hx_ hb_ hr_ hlocks_ hP_ hD_ hS_ hdg_)
def rm_X5_isPassage : Room := { frames := 2, cells := 0, slots := 0, locals := 42 }
set_option maxRecDepth 100000 in
set_option maxHeartbeats 8000000 in
theorem c_X5_isPassage (l : Launch) (D : va_G) (y : Nat → ClassId) (z : Nat → Nat)   (x0 : Int) (x1 : Int) (fu : Nat) (rr : Int) (h_ : f_X5_isPassage fu x0 x1 = some rr) : jCI l D y z yX5_isPassage wsX5_isPassage rm_X5_isPassage [.int (jI x0), .int (jI x1)] [] [] rr := by
  intro sz
  refine jmet (Qc := (fun A => va_Qi (fun v (_ : Unit) => v = jI rr) (jB D A []) A)) (cc := cX5_isPassage) (maxL := 2) (ret := (some .boolean)) (own := RX5) (by decide) rfl (Nat.le_of_ble_eq_true rfl) rfl (fun p e s m R args below meth c A ls hR_ hargs_ hx_ hb_ hr_ hlocks_ hml_ hown_ hts_ hname_ hsz_ hP_ hD_ hA_ hM_ hl_ => ?_)
  have key_ : ∀ Q : State → Prop, (∀ (v9 : Int) (H : Heap) (locs : List Loc) (pc : Nat) (ls : Array Slot), some v9 = some rr → (v9 = 0 ∨ v9 = 1) → decode cX5_isPassage pc = .ok (.ireturn, 1) → va_P D vwCl [].flatten H → va_D A [].flatten → va_S A s.heap H locs → W p l e R s m args below meth c H locs 0 0 Q (F0 m pc ls [.int (jI v9)])) → W p l e R s m args below meth c s.heap [] 0 0 Q (F0 m 0 ls []) := by
    intro Q hE_
    have hS_ : va_S A s.heap s.heap [] := va_S.rf
    have hl_ : lv_has ls 2 [(0, .int (jI x0)), (1, .int (jI x1))] := hl_
    unfold f_X5_isPassage at h_
    refine lv_iload_n hx_ hb_ dX5_isPassage_0 rfl (lv_at hl_ 0 rfl) ?_
    obtain ⟨v1, hv1, h_⟩ := jb_i h_
    refine jx_csi (b := 0) (C := "") (wr := []) (cw := []) (cw1 := []) (cs1 := []) (As := [.int (jI x0)]) (rest := []) ⟨hx_, hb_, hml_, hown_, hts_⟩ hM_ hP_ hD_ hS_ hA_ (List.Perm.refl _) (List.Perm.refl _) (c_X5_isStep l D y z x0 fu v1 hv1) 1 (va_cwS 1 hts_ gX5_isPassage_X5_isStep rfl rfl rfl (by decide +kernel) ⟨by rw [hR_]; exact Nat.le_of_ble_eq_true rfl, by rw [hR_]; exact Nat.le_of_ble_eq_true rfl⟩) rfl ⟨rfl, rfl⟩ ⟨by rw [hR_]; exact Nat.le_of_ble_eq_true rfl, by rw [hR_]; exact Nat.le_of_ble_eq_true rfl⟩ rfl rfl hl_.1 (Nat.le_of_ble_eq_true rfl) dX5_isPassage_1 ⟨Nat.zero_le _, Nat.zero_le _⟩ (fun H locs hP_ hD_ hS_ => ?_)
    refine jx_if_eq (tgt := 23) hx_ hb_ h_ dX5_isPassage_4 (by decide) (fun h_ => ?_) (fun h_ => ?_)
    · refine lv_iconst (v := jI 0) hx_ hb_ dX5_isPassage_23 (by decide +kernel) ?_
      obtain ⟨hz_, h_⟩ := jbo_i h_
      exact hE_ _ _ _ _ _ h_ hz_ dX5_isPassage_24 hP_ hD_ hS_
    · refine lv_iload_n hx_ hb_ dX5_isPassage_7 rfl (lv_at hl_ 1 rfl) ?_
      obtain ⟨v2, hv2, h_⟩ := jb_i h_
      refine jx_csi (b := 0) (C := "") (wr := []) (cw := []) (cw1 := []) (cs1 := []) (As := [.int (jI x1)]) (rest := []) ⟨hx_, hb_, hml_, hown_, hts_⟩ hM_ hP_ hD_ hS_ hA_ (List.Perm.refl _) (List.Perm.refl _) (c_X5_isStep l D y z x1 fu v2 hv2) 1 (va_cwS 1 hts_ gX5_isPassage_X5_isStep rfl rfl rfl (by decide +kernel) ⟨by rw [hR_]; exact Nat.le_of_ble_eq_true rfl, by rw [hR_]; exact Nat.le_of_ble_eq_true rfl⟩) rfl ⟨rfl, rfl⟩ ⟨by rw [hR_]; exact Nat.le_of_ble_eq_true rfl, by rw [hR_]; exact Nat.le_of_ble_eq_true rfl⟩ rfl rfl hl_.1 (Nat.le_of_ble_eq_true rfl) dX5_isPassage_8 ⟨Nat.zero_le _, Nat.zero_le _⟩ (fun H locs hP_ hD_ hS_ => ?_)
      refine jx_if_eq (tgt := 23) hx_ hb_ h_ dX5_isPassage_11 (by decide) (fun h_ => ?_) (fun h_ => ?_)
      · refine lv_iconst (v := jI 0) hx_ hb_ dX5_isPassage_23 (by decide +kernel) ?_
        obtain ⟨hz_, h_⟩ := jbo_i h_
        exact hE_ _ _ _ _ _ h_ hz_ dX5_isPassage_24 hP_ hD_ hS_
      · refine lv_iload_n hx_ hb_ dX5_isPassage_14 rfl (lv_at hl_ 0 rfl) ?_
        refine lv_iload_n hx_ hb_ dX5_isPassage_15 rfl (lv_at hl_ 1 rfl) ?_
        refine jx_icmp_gt (tgt := 23) hx_ hb_ h_ dX5_isPassage_16 (by decide) (fun h_ => ?_) (fun h_ => ?_)
        · refine lv_iconst (v := jI 0) hx_ hb_ dX5_isPassage_23 (by decide +kernel) ?_
          obtain ⟨hz_, h_⟩ := jbo_i h_
          exact hE_ _ _ _ _ _ h_ hz_ dX5_isPassage_24 hP_ hD_ hS_
        · refine lv_iconst (v := jI 1) hx_ hb_ dX5_isPassage_19 (by decide +kernel) ?_
          refine lv_goto (tgt := 24) hx_ hb_ dX5_isPassage_20 (by decide) ?_
          obtain ⟨hz_, h_⟩ := jbo_i h_
          exact hE_ _ _ _ _ _ h_ hz_ dX5_isPassage_24 hP_ hD_ hS_
  exact key_ _ (fun v9 H locs pc ls h9_ hz_ hdg_ hP_ hD_ hS_ => by cases h9_; exact jend_z hx_ hb_ hr_ hlocks_ hz_ hP_ hD_ hS_ hdg_)
def rm_X5_copy : Room := { frames := 4, cells := 0, slots := 0, locals := 96 }
set_option maxRecDepth 100000 in
set_option maxHeartbeats 8000000 in
theorem c_X5_copy (l : Launch) (D : va_G) (y : Nat → ClassId) (z : Nat → Nat) (a : Nat → Nat) (rc : Int) (is_ : Int → Int) (pd : Int → Int) (pn : Int) (ho : Int → Int) (eh : Int → Int) (mv : Int → Int) (at_ : Int) (tk : Int) (fs : Int) (lt : Int) (ea : Int) (stf : Int → Int) (kpf : Int → Int) (hsf : Int → Int) (slf : Int → Int) (x1 : Int) (x2 : Int) (x3 : Int) (fu : Nat) (rr : Int) (q_rc : Int) (q_stf : Int → Int) (q_kpf : Int → Int) (q_hsf : Int → Int) (h_ : f_X5_copy fu rc stf kpf hsf x1 x2 x3 = some (rr, q_rc, q_stf, q_kpf, q_hsf)) : jCI l D y z yX5_copy wsX5_copy rm_X5_copy [.ref (a 0), .int (jI x1), .int (jI x2), .int (jI x3)] [(wMo y a rc is_ pd pn ho eh mv at_ tk fs lt ea), (wAr y (a 6) 205 stf), (wAr y (a 7) 205 kpf), (wAr y (a 8) 1230 hsf), (wAr y (a 9) 410 slf)] [(wMo y a q_rc is_ pd pn ho eh mv at_ tk fs lt ea), (wAr y (a 6) 205 q_stf), (wAr y (a 7) 205 q_kpf), (wAr y (a 8) 1230 q_hsf), (wAr y (a 9) 410 slf)] rr := by
  intro sz
  refine jmet (Qc := (fun A => va_Qi (fun v (_ : Unit) => v = jI rr) (jB D A [(wMo y a q_rc is_ pd pn ho eh mv at_ tk fs lt ea), (wAr y (a 6) 205 q_stf), (wAr y (a 7) 205 q_kpf), (wAr y (a 8) 1230 q_hsf), (wAr y (a 9) 410 slf)]) A)) (cc := cX5_copy) (maxL := 8) (ret := (some .int)) (own := RX5) (by decide) rfl (Nat.le_of_ble_eq_true rfl) rfl (fun p e s m R args below meth c A ls hR_ hargs_ hx_ hb_ hr_ hlocks_ hml_ hown_ hts_ hname_ hsz_ hP_ hD_ hA_ hM_ hl_ => ?_)
  have key_ : ∀ Q : State → Prop, (∀ (v9 : Int) (rc9 : Int) (stf9 : Int → Int) (kpf9 : Int → Int) (hsf9 : Int → Int) (H : Heap) (locs : List Loc) (pc : Nat) (ls : Array Slot), some (v9, rc9, stf9, kpf9, hsf9) = some (rr, q_rc, q_stf, q_kpf, q_hsf) → decode cX5_copy pc = .ok (.ireturn, 1) → va_P D vwCl [(wMo y a rc9 is_ pd pn ho eh mv at_ tk fs lt ea), (wAr y (a 6) 205 stf9), (wAr y (a 7) 205 kpf9), (wAr y (a 8) 1230 hsf9), (wAr y (a 9) 410 slf)].flatten H → va_D A [(wMo y a rc9 is_ pd pn ho eh mv at_ tk fs lt ea), (wAr y (a 6) 205 stf9), (wAr y (a 7) 205 kpf9), (wAr y (a 8) 1230 hsf9), (wAr y (a 9) 410 slf)].flatten → va_S A s.heap H locs → W p l e R s m args below meth c H locs 0 0 Q (F0 m pc ls [.int (jI v9)])) → W p l e R s m args below meth c s.heap [] 0 0 Q (F0 m 0 ls []) := by
    intro Q hE_
    have hS_ : va_S A s.heap s.heap [] := va_S.rf
    have hl_ : lv_has ls 8 [(0, .ref (a 0)), (1, .int (jI x1)), (2, .int (jI x2)), (3, .int (jI x3))] := hl_
    have hin_ : ∀ w ∈ u_ws RX5 TX5 16, w ∈ wsX5_copy := by decide +kernel
    unfold f_X5_copy at h_
    refine lv_iload_n hx_ hb_ dX5_copy_0 rfl (lv_at hl_ 1 rfl) ?_
    refine lv_iload_n hx_ hb_ dX5_copy_1 rfl (lv_at hl_ 2 rfl) ?_
    obtain ⟨v1, hv1, h_⟩ := jb_i h_
    refine jx_csi (b := 0) (C := "") (wr := [(wMo y a rc is_ pd pn ho eh mv at_ tk fs lt ea), (wAr y (a 6) 205 stf), (wAr y (a 7) 205 kpf), (wAr y (a 8) 1230 hsf), (wAr y (a 9) 410 slf)]) (cw := []) (cw1 := []) (cs1 := [(wMo y a rc is_ pd pn ho eh mv at_ tk fs lt ea), (wAr y (a 6) 205 stf), (wAr y (a 7) 205 kpf), (wAr y (a 8) 1230 hsf), (wAr y (a 9) 410 slf)]) (As := [.int (jI x1), .int (jI x2)]) (rest := []) ⟨hx_, hb_, hml_, hown_, hts_⟩ hM_ hP_ hD_ hS_ hA_ (List.Perm.of_eq (List.append_nil _).symm) (List.Perm.of_eq (List.append_nil _)) (c_X5_isPassage l D y z x1 x2 fu v1 hv1) 2 (va_cwS 2 hts_ gX5_copy_X5_isPassage rfl rfl rfl (by decide +kernel) ⟨by rw [hR_]; exact Nat.le_of_ble_eq_true rfl, by rw [hR_]; exact Nat.le_of_ble_eq_true rfl⟩) rfl ⟨rfl, rfl⟩ ⟨by rw [hR_]; exact Nat.le_of_ble_eq_true rfl, by rw [hR_]; exact Nat.le_of_ble_eq_true rfl⟩ rfl rfl hl_.1 (Nat.le_of_ble_eq_true rfl) dX5_copy_2 ⟨Nat.zero_le _, Nat.zero_le _⟩ (fun H locs hP_ hD_ hS_ => ?_)
    refine jx_if_eq (tgt := 15) hx_ hb_ h_ dX5_copy_5 (by decide) (fun h_ => ?_) (fun h_ => ?_)
    · refine lv_bipush (v := jI (-2)) hx_ hb_ dX5_copy_15 (by decide +kernel) ?_
      exact hE_ _ _ _ _ _ _ _ _ _ h_ dX5_copy_17 hP_ hD_ hS_
    · refine lv_iload_n hx_ hb_ dX5_copy_8 rfl (lv_at hl_ 3 rfl) ?_
      obtain ⟨v2, hv2, h_⟩ := jb_i h_
      refine jx_csi (b := 0) (C := "") (wr := [(wMo y a rc is_ pd pn ho eh mv at_ tk fs lt ea), (wAr y (a 6) 205 stf), (wAr y (a 7) 205 kpf), (wAr y (a 8) 1230 hsf), (wAr y (a 9) 410 slf)]) (cw := []) (cw1 := []) (cs1 := [(wMo y a rc is_ pd pn ho eh mv at_ tk fs lt ea), (wAr y (a 6) 205 stf), (wAr y (a 7) 205 kpf), (wAr y (a 8) 1230 hsf), (wAr y (a 9) 410 slf)]) (As := [.int (jI x3)]) (rest := []) ⟨hx_, hb_, hml_, hown_, hts_⟩ hM_ hP_ hD_ hS_ hA_ (List.Perm.of_eq (List.append_nil _).symm) (List.Perm.of_eq (List.append_nil _)) (c_X5_isStep l D y z x3 fu v2 hv2) 1 (va_cwS 1 hts_ gX5_copy_X5_isStep rfl rfl rfl (by decide +kernel) ⟨by rw [hR_]; exact Nat.le_of_ble_eq_true rfl, by rw [hR_]; exact Nat.le_of_ble_eq_true rfl⟩) rfl ⟨rfl, rfl⟩ ⟨by rw [hR_]; exact Nat.le_of_ble_eq_true rfl, by rw [hR_]; exact Nat.le_of_ble_eq_true rfl⟩ rfl rfl hl_.1 (Nat.le_of_ble_eq_true rfl) dX5_copy_9 ⟨Nat.zero_le _, Nat.zero_le _⟩ (fun H locs hP_ hD_ hS_ => ?_)
      refine jx_if_ne (tgt := 18) hx_ hb_ h_ dX5_copy_12 (by decide) (fun h_ => ?_) (fun h_ => ?_)
      · refine lv_aload_n hx_ hb_ dX5_copy_18 rfl (lv_at hl_ 0 rfl) ?_
        refine lv_iload_n hx_ hb_ dX5_copy_19 rfl (lv_at hl_ 1 rfl) ?_
        refine lv_iload_n hx_ hb_ dX5_copy_20 rfl (lv_at hl_ 2 rfl) ?_
        refine lv_iload_n hx_ hb_ dX5_copy_21 rfl (lv_at hl_ 3 rfl) ?_
        obtain ⟨v3, hv3, h_⟩ := jb_i h_
        refine jx_cvi (wr := []) (cw := [(wMo y a rc is_ pd pn ho eh mv at_ tk fs lt ea), (wAr y (a 6) 205 stf), (wAr y (a 7) 205 kpf), (wAr y (a 8) 1230 hsf), (wAr y (a 9) 410 slf)]) (cw1 := [(wMo y a rc is_ pd pn ho eh mv at_ tk fs lt ea), (wAr y (a 6) 205 stf), (wAr y (a 7) 205 kpf), (wAr y (a 8) 1230 hsf), (wAr y (a 9) 410 slf)]) (cs1 := [(wMo y a rc is_ pd pn ho eh mv at_ tk fs lt ea), (wAr y (a 6) 205 stf), (wAr y (a 7) 205 kpf), (wAr y (a 8) 1230 hsf), (wAr y (a 9) 410 slf)]) (As := [.int (jI x1), .int (jI x2), .int (jI x3)]) (rest := []) ⟨hx_, hb_, hml_, hown_, hts_⟩ hM_ hP_ hD_ hS_ hA_ (List.Perm.refl _) (List.Perm.refl _) (c_X5_whyNotCopied l D y z a rc is_ pd pn ho eh mv at_ tk fs lt ea stf kpf hsf slf x1 x2 x3 fu v3 hv3) 3 gX5_copy_X5_whyNotCopied rfl ⟨rfl, rfl⟩ (by decide +kernel) ⟨by rw [hR_]; exact Nat.le_of_ble_eq_true rfl, by rw [hR_]; exact Nat.le_of_ble_eq_true rfl⟩ 0 5 rfl rfl rfl rfl rfl hl_.1 (Nat.le_of_ble_eq_true rfl) dX5_copy_22 ⟨Nat.zero_le _, Nat.zero_le _⟩ (fun H locs hP_ hD_ hS_ => ?_)
        refine lv_istore (lv' := [(4, .int (jI v3)), (0, .ref (a 0)), (1, .int (jI x1)), (2, .int (jI x2)), (3, .int (jI x3))]) hx_ hb_ dX5_copy_25 hl_ (by decide) rfl (fun ls hl_ => ?_)
        refine lv_iload hx_ hb_ dX5_copy_27 (lv_at hl_ 0 rfl) ?_
        refine jx_if_ge (tgt := 35) hx_ hb_ h_ dX5_copy_29 (by decide) (fun h_ => ?_) (fun h_ => ?_)
        · refine lv_aload_n hx_ hb_ dX5_copy_35 rfl (lv_at hl_ 1 rfl) ?_
          obtain ⟨rc_m4, hsf_m5, hrc_m4, h_⟩ := jb2_i h_
          refine jx_cvv (rv := 0) (wr := []) (cw := [(wMo y a rc is_ pd pn ho eh mv at_ tk fs lt ea), (wAr y (a 6) 205 stf), (wAr y (a 7) 205 kpf), (wAr y (a 8) 1230 hsf), (wAr y (a 9) 410 slf)]) (cw1 := [(wMo y a rc_m4 is_ pd pn ho eh mv at_ tk fs lt ea), (wAr y (a 6) 205 stf), (wAr y (a 7) 205 kpf), (wAr y (a 8) 1230 hsf_m5), (wAr y (a 9) 410 slf)]) (cs1 := [(wMo y a rc_m4 is_ pd pn ho eh mv at_ tk fs lt ea), (wAr y (a 6) 205 stf), (wAr y (a 7) 205 kpf), (wAr y (a 8) 1230 hsf_m5), (wAr y (a 9) 410 slf)]) (As := []) (rest := []) ⟨hx_, hb_, hml_, hown_, hts_⟩ hM_ hP_ hD_ hS_ hA_ (List.Perm.refl _) (List.Perm.refl _) (c_X5_record l D y z a rc is_ pd pn ho eh mv at_ tk fs lt ea stf kpf hsf slf fu rc_m4 hsf_m5 hrc_m4) 0 gX5_copy_X5_record rfl ⟨rfl, rfl⟩ (by decide +kernel) ⟨by rw [hR_]; exact Nat.le_of_ble_eq_true rfl, by rw [hR_]; exact Nat.le_of_ble_eq_true rfl⟩ 0 5 rfl rfl rfl rfl rfl hl_.1 (Nat.le_of_ble_eq_true rfl) dX5_copy_36 ⟨Nat.zero_le _, Nat.zero_le _⟩ (fun H locs hP_ hD_ hS_ => ?_)
          refine lv_aload_n hx_ hb_ dX5_copy_39 rfl (lv_at hl_ 1 rfl) ?_
          refine va_get (D := D) (ci := 5) (v := .ref (a 6)) (C := RX5) (T := TX5) (N := 16) hx_ hb_ hts_ hin_ hown_ hM_.1 hP_ 0 rfl rfl 0 (by decide) (hts_ (.fieldLink RX5 7 "MusicHolesModel" "state" "[I") (by decide +kernel)) (fun _ h9_ => h9_) rfl dX5_copy_40 ?_
          refine lv_iconst (v := jI 0) hx_ hb_ dX5_copy_43 (by decide +kernel) ?_
          refine lv_aload_n hx_ hb_ dX5_copy_44 rfl (lv_at hl_ 1 rfl) ?_
          refine va_get (D := D) (ci := 5) (v := .ref (a 7)) (C := RX5) (T := TX5) (N := 16) hx_ hb_ hts_ hin_ hown_ hM_.1 hP_ 0 rfl rfl 1 (by decide) (hts_ (.fieldLink RX5 13 "MusicHolesModel" "kept" "[I") (by decide +kernel)) (fun _ h9_ => h9_) rfl dX5_copy_45 ?_
          refine lv_iconst (v := jI 0) hx_ hb_ dX5_copy_48 (by decide +kernel) ?_
          obtain ⟨q2f_m6, hq2f_m6, h_⟩ := jb_i h_
          refine jx_csv (b := 0) (C := "") (rv := 0) (wr := [(wMo y a rc_m4 is_ pd pn ho eh mv at_ tk fs lt ea), (wAr y (a 8) 1230 hsf_m5), (wAr y (a 9) 410 slf)]) (cw := [(wAr y (a 6) 205 stf), (wAr y (a 7) 205 kpf)]) (cw1 := [(wAr y (a 6) 205 stf), (wAr y (a 7) 205 q2f_m6)]) (cs1 := [(wMo y a rc_m4 is_ pd pn ho eh mv at_ tk fs lt ea), (wAr y (a 6) 205 stf), (wAr y (a 7) 205 q2f_m6), (wAr y (a 8) 1230 hsf_m5), (wAr y (a 9) 410 slf)]) (As := [.ref (a 6), .int (jI 0), .ref (a 7), .int (jI 0)]) (rest := []) ⟨hx_, hb_, hml_, hown_, hts_⟩ hM_ hP_ hD_ hS_ hA_ (jperm 5 [0, 3, 4, 1, 2] rfl (by decide) rfl) (jperm 5 [0, 3, 4, 1, 2] rfl (by decide) rfl) (c_X5_moves l D y z (a 6) (a 7) 205 (Nat.le_of_ble_eq_true rfl) 205 (Nat.le_of_ble_eq_true rfl) stf kpf 0 0 fu q2f_m6 hq2f_m6) 4 (va_cwS 4 hts_ gX5_copy_X5_moves rfl rfl rfl (by decide +kernel) ⟨by rw [hR_]; exact Nat.le_of_ble_eq_true rfl, by rw [hR_]; exact Nat.le_of_ble_eq_true rfl⟩) rfl ⟨rfl, rfl⟩ ⟨by rw [hR_]; exact Nat.le_of_ble_eq_true rfl, by rw [hR_]; exact Nat.le_of_ble_eq_true rfl⟩ rfl rfl hl_.1 (Nat.le_of_ble_eq_true rfl) dX5_copy_49 ⟨Nat.zero_le _, Nat.zero_le _⟩ (fun H locs hP_ hD_ hS_ => ?_)
          refine lv_iconst (v := jI 0) hx_ hb_ dX5_copy_52 (by decide +kernel) ?_
          refine lv_istore (lv' := [(5, .int (jI 0)), (4, .int (jI v3)), (0, .ref (a 0)), (1, .int (jI x1)), (2, .int (jI x2)), (3, .int (jI x3))]) hx_ hb_ dX5_copy_53 hl_ (by decide) rfl (fun ls hl_ => ?_)
          refine lv_iconst (v := jI 0) hx_ hb_ dX5_copy_55 (by decide +kernel) ?_
          refine lv_istore (lv' := [(6, .int (jI 0)), (5, .int (jI 0)), (4, .int (jI v3)), (0, .ref (a 0)), (1, .int (jI x1)), (2, .int (jI x2)), (3, .int (jI x3))]) hx_ hb_ dX5_copy_56 hl_ (by decide) rfl (fun ls hl_ => ?_)
          have hX170 : ∀ (rc_m7 : Int) (stf_m8 : Int → Int) (kpf_m9 : Int → Int) (hsf_m10 : Int → Int) (v11 : Int) (H : Heap) (locs : List Loc) (ls : Array Slot), f_X5_copy_X170 fu rc_m7 stf_m8 kpf_m9 hsf_m10 v11 = some (rr, q_rc, q_stf, q_kpf, q_hsf) → va_P D vwCl [(wMo y a rc_m7 is_ pd pn ho eh mv at_ tk fs lt ea), (wAr y (a 6) 205 stf_m8), (wAr y (a 7) 205 kpf_m9), (wAr y (a 8) 1230 hsf_m10), (wAr y (a 9) 410 slf)].flatten H → va_D A [(wMo y a rc_m7 is_ pd pn ho eh mv at_ tk fs lt ea), (wAr y (a 6) 205 stf_m8), (wAr y (a 7) 205 kpf_m9), (wAr y (a 8) 1230 hsf_m10), (wAr y (a 9) 410 slf)].flatten → va_S A s.heap H locs → lv_has ls 8 [(5, .int (jI v11))] → W p l e R s m args below meth c H locs 0 0 Q (F0 m 170 ls []) := by
            intro rc_m7 stf_m8 kpf_m9 hsf_m10 v11 H locs ls h_ hP_ hD_ hS_ hl_
            unfold f_X5_copy_X170 at h_
            refine lv_iload hx_ hb_ dX5_copy_170 (lv_at hl_ 0 rfl) ?_
            exact hE_ _ _ _ _ _ _ _ _ _ h_ dX5_copy_172 hP_ hD_ hS_
          have hL58 : ∀ n58 : Nat, ∀ (rc_m12 : Int) (stf_m13 : Int → Int) (kpf_m14 : Int → Int) (hsf_m15 : Int → Int) (v16 : Int) (v17 : Int) (H : Heap) (locs : List Loc) (ls : Array Slot), f_X5_copy_L58 fu x1 x2 x3 (f_X5_copy_X170 fu) n58 rc_m12 stf_m13 kpf_m14 hsf_m15 v16 v17 = some (rr, q_rc, q_stf, q_kpf, q_hsf) → va_P D vwCl [(wMo y a rc_m12 is_ pd pn ho eh mv at_ tk fs lt ea), (wAr y (a 6) 205 stf_m13), (wAr y (a 7) 205 kpf_m14), (wAr y (a 8) 1230 hsf_m15), (wAr y (a 9) 410 slf)].flatten H → va_D A [(wMo y a rc_m12 is_ pd pn ho eh mv at_ tk fs lt ea), (wAr y (a 6) 205 stf_m13), (wAr y (a 7) 205 kpf_m14), (wAr y (a 8) 1230 hsf_m15), (wAr y (a 9) 410 slf)].flatten → va_S A s.heap H locs → lv_has ls 8 [(0, .ref (a 0)), (1, .int (jI x1)), (2, .int (jI x2)), (3, .int (jI x3)), (5, .int (jI v16)), (6, .int (jI v17))] → W p l e R s m args below meth c H locs 0 0 Q (F0 m 58 ls []) := by
            intro n58
            induction n58 with
            | zero => intro _ _ _ _ _ _ H locs ls h_; have h_ : (none : Option (Int × Int × (Int → Int) × (Int → Int) × (Int → Int))) = some (rr, q_rc, q_stf, q_kpf, q_hsf) := h_; cases h_
            | succ n58 ih58 =>
              intro rc_m12 stf_m13 kpf_m14 hsf_m15 v16 v17 H locs ls h_ hP_ hD_ hS_ hl_
              replace h_ : f_X5_copy_L58_b fu x1 x2 x3 (f_X5_copy_X170 fu) (f_X5_copy_L58 fu x1 x2 x3 (f_X5_copy_X170 fu) n58) rc_m12 stf_m13 kpf_m14 hsf_m15 v16 v17 = some (rr, q_rc, q_stf, q_kpf, q_hsf) := h_
              unfold f_X5_copy_L58_b at h_
              refine lv_iload hx_ hb_ dX5_copy_58 (lv_at hl_ 5 rfl) ?_
              refine lv_aload_n hx_ hb_ dX5_copy_60 rfl (lv_at hl_ 0 rfl) ?_
              refine va_get (D := D) (ci := 5) (v := .ref (a 7)) (C := RX5) (T := TX5) (N := 16) hx_ hb_ hts_ hin_ hown_ hM_.1 hP_ 0 rfl rfl 1 (by decide) (hts_ (.fieldLink RX5 13 "MusicHolesModel" "kept" "[I") (by decide +kernel)) (fun _ h9_ => h9_) rfl dX5_copy_61 ?_
              refine lv_iconst (v := jI 4) hx_ hb_ dX5_copy_64 (by decide +kernel) ?_
              refine jx_iald hx_ hb_ hM_ hP_ 7 0 rfl rfl rfl (Nat.le_of_ble_eq_true rfl) h_ dX5_copy_65 (fun h_ => ?_)
              refine jx_icmp_ge (tgt := 170) hx_ hb_ h_ dX5_copy_66 (by decide) (fun h_ => ?_) (fun h_ => ?_)
              · exact hX170 _ _ _ _ _ _ _ ls h_ hP_ hD_ hS_ (lv_sub hl_ [4] rfl)
              · refine lv_iconst (v := jI 5) hx_ hb_ dX5_copy_69 (by decide +kernel) ?_
                refine lv_iconst (v := jI 5) hx_ hb_ dX5_copy_70 (by decide +kernel) ?_
                refine lv_iload hx_ hb_ dX5_copy_71 (lv_at hl_ 5 rfl) ?_
                refine jx_imul hx_ hb_ dX5_copy_73 ?_
                refine jx_iadd hx_ hb_ dX5_copy_74 ?_
                refine lv_istore (lv' := [(7, .int (jI (5 + (5 * v17)))), (0, .ref (a 0)), (1, .int (jI x1)), (2, .int (jI x2)), (3, .int (jI x3)), (5, .int (jI v16)), (6, .int (jI v17))]) hx_ hb_ dX5_copy_75 hl_ (by decide) rfl (fun ls hl_ => ?_)
                refine lv_aload_n hx_ hb_ dX5_copy_77 rfl (lv_at hl_ 1 rfl) ?_
                refine va_get (D := D) (ci := 5) (v := .ref (a 7)) (C := RX5) (T := TX5) (N := 16) hx_ hb_ hts_ hin_ hown_ hM_.1 hP_ 0 rfl rfl 1 (by decide) (hts_ (.fieldLink RX5 13 "MusicHolesModel" "kept" "[I") (by decide +kernel)) (fun _ h9_ => h9_) rfl dX5_copy_78 ?_
                refine lv_iload hx_ hb_ dX5_copy_81 (lv_at hl_ 0 rfl) ?_
                refine lv_iconst (v := jI 1) hx_ hb_ dX5_copy_83 (by decide +kernel) ?_
                refine jx_iadd hx_ hb_ dX5_copy_84 ?_
                refine jx_iald hx_ hb_ hM_ hP_ 7 0 rfl rfl rfl (Nat.le_of_ble_eq_true rfl) h_ dX5_copy_85 (fun h_ => ?_)
                refine lv_iload_n hx_ hb_ dX5_copy_86 rfl (lv_at hl_ 2 rfl) ?_
                refine jx_icmp_lt (tgt := 164) hx_ hb_ h_ dX5_copy_87 (by decide) (fun h_ => ?_) (fun h_ => ?_)
                · refine lv_iinc (v := jI (v17 + 1)) (lv' := [(6, .int (jI (v17 + 1))), (7, .int (jI (5 + (5 * v17)))), (0, .ref (a 0)), (1, .int (jI x1)), (2, .int (jI x2)), (3, .int (jI x3)), (5, .int (jI v16))]) hx_ hb_ dX5_copy_164 hl_ (k := 6) rfl (jI_add _ _) (by decide) rfl (fun ls hl_ => ?_)
                  refine lv_goto (tgt := 58) hx_ hb_ dX5_copy_167 (by decide) ?_
                  exact ih58 _ _ _ _ _ _ _ _ ls h_ hP_ hD_ hS_ (lv_sub hl_ [2, 3, 4, 5, 6, 0] rfl)
                · refine lv_aload_n hx_ hb_ dX5_copy_90 rfl (lv_at hl_ 1 rfl) ?_
                  refine va_get (D := D) (ci := 5) (v := .ref (a 7)) (C := RX5) (T := TX5) (N := 16) hx_ hb_ hts_ hin_ hown_ hM_.1 hP_ 0 rfl rfl 1 (by decide) (hts_ (.fieldLink RX5 13 "MusicHolesModel" "kept" "[I") (by decide +kernel)) (fun _ h9_ => h9_) rfl dX5_copy_91 ?_
                  refine lv_iload hx_ hb_ dX5_copy_94 (lv_at hl_ 0 rfl) ?_
                  refine lv_iconst (v := jI 2) hx_ hb_ dX5_copy_96 (by decide +kernel) ?_
                  refine jx_iadd hx_ hb_ dX5_copy_97 ?_
                  refine jx_iald hx_ hb_ hM_ hP_ 7 0 rfl rfl rfl (Nat.le_of_ble_eq_true rfl) h_ dX5_copy_98 (fun h_ => ?_)
                  refine lv_iload_n hx_ hb_ dX5_copy_99 rfl (lv_at hl_ 3 rfl) ?_
                  refine jx_icmp_gt (tgt := 164) hx_ hb_ h_ dX5_copy_100 (by decide) (fun h_ => ?_) (fun h_ => ?_)
                  · refine lv_iinc (v := jI (v17 + 1)) (lv' := [(6, .int (jI (v17 + 1))), (7, .int (jI (5 + (5 * v17)))), (0, .ref (a 0)), (1, .int (jI x1)), (2, .int (jI x2)), (3, .int (jI x3)), (5, .int (jI v16))]) hx_ hb_ dX5_copy_164 hl_ (k := 6) rfl (jI_add _ _) (by decide) rfl (fun ls hl_ => ?_)
                    refine lv_goto (tgt := 58) hx_ hb_ dX5_copy_167 (by decide) ?_
                    exact ih58 _ _ _ _ _ _ _ _ ls h_ hP_ hD_ hS_ (lv_sub hl_ [2, 3, 4, 5, 6, 0] rfl)
                  · refine lv_aload_n hx_ hb_ dX5_copy_103 rfl (lv_at hl_ 1 rfl) ?_
                    refine lv_aload_n hx_ hb_ dX5_copy_104 rfl (lv_at hl_ 1 rfl) ?_
                    refine va_get (D := D) (ci := 5) (v := .ref (a 7)) (C := RX5) (T := TX5) (N := 16) hx_ hb_ hts_ hin_ hown_ hM_.1 hP_ 0 rfl rfl 1 (by decide) (hts_ (.fieldLink RX5 13 "MusicHolesModel" "kept" "[I") (by decide +kernel)) (fun _ h9_ => h9_) rfl dX5_copy_105 ?_
                    refine lv_iload hx_ hb_ dX5_copy_108 (lv_at hl_ 0 rfl) ?_
                    refine lv_iconst (v := jI 0) hx_ hb_ dX5_copy_110 (by decide +kernel) ?_
                    refine jx_iadd hx_ hb_ dX5_copy_111 ?_
                    refine jx_iald hx_ hb_ hM_ hP_ 7 0 rfl rfl rfl (Nat.le_of_ble_eq_true rfl) h_ dX5_copy_112 (fun h_ => ?_)
                    refine lv_aload_n hx_ hb_ dX5_copy_113 rfl (lv_at hl_ 1 rfl) ?_
                    refine va_get (D := D) (ci := 5) (v := .ref (a 7)) (C := RX5) (T := TX5) (N := 16) hx_ hb_ hts_ hin_ hown_ hM_.1 hP_ 0 rfl rfl 1 (by decide) (hts_ (.fieldLink RX5 13 "MusicHolesModel" "kept" "[I") (by decide +kernel)) (fun _ h9_ => h9_) rfl dX5_copy_114 ?_
                    refine lv_iload hx_ hb_ dX5_copy_117 (lv_at hl_ 0 rfl) ?_
                    refine lv_iconst (v := jI 1) hx_ hb_ dX5_copy_119 (by decide +kernel) ?_
                    refine jx_iadd hx_ hb_ dX5_copy_120 ?_
                    refine jx_iald hx_ hb_ hM_ hP_ 7 0 rfl rfl rfl (Nat.le_of_ble_eq_true rfl) h_ dX5_copy_121 (fun h_ => ?_)
                    refine lv_iload_n hx_ hb_ dX5_copy_122 rfl (lv_at hl_ 4 rfl) ?_
                    refine jx_iadd hx_ hb_ dX5_copy_123 ?_
                    refine lv_iload_n hx_ hb_ dX5_copy_124 rfl (lv_at hl_ 2 rfl) ?_
                    refine jx_isub hx_ hb_ dX5_copy_125 ?_
                    refine lv_aload_n hx_ hb_ dX5_copy_126 rfl (lv_at hl_ 1 rfl) ?_
                    refine va_get (D := D) (ci := 5) (v := .ref (a 7)) (C := RX5) (T := TX5) (N := 16) hx_ hb_ hts_ hin_ hown_ hM_.1 hP_ 0 rfl rfl 1 (by decide) (hts_ (.fieldLink RX5 13 "MusicHolesModel" "kept" "[I") (by decide +kernel)) (fun _ h9_ => h9_) rfl dX5_copy_127 ?_
                    refine lv_iload hx_ hb_ dX5_copy_130 (lv_at hl_ 0 rfl) ?_
                    refine lv_iconst (v := jI 2) hx_ hb_ dX5_copy_132 (by decide +kernel) ?_
                    refine jx_iadd hx_ hb_ dX5_copy_133 ?_
                    refine jx_iald hx_ hb_ hM_ hP_ 7 0 rfl rfl rfl (Nat.le_of_ble_eq_true rfl) h_ dX5_copy_134 (fun h_ => ?_)
                    refine lv_iload_n hx_ hb_ dX5_copy_135 rfl (lv_at hl_ 4 rfl) ?_
                    refine jx_iadd hx_ hb_ dX5_copy_136 ?_
                    refine lv_iload_n hx_ hb_ dX5_copy_137 rfl (lv_at hl_ 2 rfl) ?_
                    refine jx_isub hx_ hb_ dX5_copy_138 ?_
                    refine lv_aload_n hx_ hb_ dX5_copy_139 rfl (lv_at hl_ 1 rfl) ?_
                    refine va_get (D := D) (ci := 5) (v := .ref (a 7)) (C := RX5) (T := TX5) (N := 16) hx_ hb_ hts_ hin_ hown_ hM_.1 hP_ 0 rfl rfl 1 (by decide) (hts_ (.fieldLink RX5 13 "MusicHolesModel" "kept" "[I") (by decide +kernel)) (fun _ h9_ => h9_) rfl dX5_copy_140 ?_
                    refine lv_iload hx_ hb_ dX5_copy_143 (lv_at hl_ 0 rfl) ?_
                    refine lv_iconst (v := jI 3) hx_ hb_ dX5_copy_145 (by decide +kernel) ?_
                    refine jx_iadd hx_ hb_ dX5_copy_146 ?_
                    refine jx_iald hx_ hb_ hM_ hP_ 7 0 rfl rfl rfl (Nat.le_of_ble_eq_true rfl) h_ dX5_copy_147 (fun h_ => ?_)
                    refine lv_aload_n hx_ hb_ dX5_copy_148 rfl (lv_at hl_ 1 rfl) ?_
                    refine va_get (D := D) (ci := 5) (v := .ref (a 7)) (C := RX5) (T := TX5) (N := 16) hx_ hb_ hts_ hin_ hown_ hM_.1 hP_ 0 rfl rfl 1 (by decide) (hts_ (.fieldLink RX5 13 "MusicHolesModel" "kept" "[I") (by decide +kernel)) (fun _ h9_ => h9_) rfl dX5_copy_149 ?_
                    refine lv_iload hx_ hb_ dX5_copy_152 (lv_at hl_ 0 rfl) ?_
                    refine lv_iconst (v := jI 4) hx_ hb_ dX5_copy_154 (by decide +kernel) ?_
                    refine jx_iadd hx_ hb_ dX5_copy_155 ?_
                    refine jx_iald hx_ hb_ hM_ hP_ 7 0 rfl rfl rfl (Nat.le_of_ble_eq_true rfl) h_ dX5_copy_156 (fun h_ => ?_)
                    obtain ⟨v18, stf_m19, hv18, h_⟩ := jb2_i h_
                    refine jx_cvi (wr := []) (cw := [(wMo y a rc_m12 is_ pd pn ho eh mv at_ tk fs lt ea), (wAr y (a 6) 205 stf_m13), (wAr y (a 7) 205 kpf_m14), (wAr y (a 8) 1230 hsf_m15), (wAr y (a 9) 410 slf)]) (cw1 := [(wMo y a rc_m12 is_ pd pn ho eh mv at_ tk fs lt ea), (wAr y (a 6) 205 stf_m19), (wAr y (a 7) 205 kpf_m14), (wAr y (a 8) 1230 hsf_m15), (wAr y (a 9) 410 slf)]) (cs1 := [(wMo y a rc_m12 is_ pd pn ho eh mv at_ tk fs lt ea), (wAr y (a 6) 205 stf_m19), (wAr y (a 7) 205 kpf_m14), (wAr y (a 8) 1230 hsf_m15), (wAr y (a 9) 410 slf)]) (As := [.int (jI (kpf_m14 ((5 + (5 * v17)) + 0))), .int (jI (((kpf_m14 ((5 + (5 * v17)) + 1)) + x3) - x1)), .int (jI (((kpf_m14 ((5 + (5 * v17)) + 2)) + x3) - x1)), .int (jI (kpf_m14 ((5 + (5 * v17)) + 3))), .int (jI (kpf_m14 ((5 + (5 * v17)) + 4)))]) (rest := []) ⟨hx_, hb_, hml_, hown_, hts_⟩ hM_ hP_ hD_ hS_ hA_ (List.Perm.refl _) (List.Perm.refl _) (c_X5_putIn l D y z a rc_m12 is_ pd pn ho eh mv at_ tk fs lt ea stf_m13 kpf_m14 hsf_m15 slf (kpf_m14 ((5 + (5 * v17)) + 0)) (((kpf_m14 ((5 + (5 * v17)) + 1)) + x3) - x1) (((kpf_m14 ((5 + (5 * v17)) + 2)) + x3) - x1) (kpf_m14 ((5 + (5 * v17)) + 3)) (kpf_m14 ((5 + (5 * v17)) + 4)) fu v18 stf_m19 hv18) 5 gX5_copy_X5_putIn rfl ⟨rfl, rfl⟩ (by decide +kernel) ⟨by rw [hR_]; exact Nat.le_of_ble_eq_true rfl, by rw [hR_]; exact Nat.le_of_ble_eq_true rfl⟩ 0 5 rfl rfl rfl rfl rfl hl_.1 (Nat.le_of_ble_eq_true rfl) dX5_copy_157 ⟨Nat.zero_le _, Nat.zero_le _⟩ (fun H locs hP_ hD_ hS_ => ?_)
                    refine lv_pop hx_ hb_ dX5_copy_160 rfl ?_
                    refine lv_iinc (v := jI (v16 + 1)) (lv' := [(5, .int (jI (v16 + 1))), (7, .int (jI (5 + (5 * v17)))), (0, .ref (a 0)), (1, .int (jI x1)), (2, .int (jI x2)), (3, .int (jI x3)), (6, .int (jI v17))]) hx_ hb_ dX5_copy_161 hl_ (k := 5) rfl (jI_add _ _) (by decide) rfl (fun ls hl_ => ?_)
                    refine lv_iinc (v := jI (v17 + 1)) (lv' := [(6, .int (jI (v17 + 1))), (5, .int (jI (v16 + 1))), (7, .int (jI (5 + (5 * v17)))), (0, .ref (a 0)), (1, .int (jI x1)), (2, .int (jI x2)), (3, .int (jI x3))]) hx_ hb_ dX5_copy_164 hl_ (k := 6) rfl (jI_add _ _) (by decide) rfl (fun ls hl_ => ?_)
                    refine lv_goto (tgt := 58) hx_ hb_ dX5_copy_167 (by decide) ?_
                    exact ih58 _ _ _ _ _ _ _ _ ls h_ hP_ hD_ hS_ (lv_sub hl_ [3, 4, 5, 6, 1, 0] rfl)
          exact hL58 fu _ _ _ _ _ _ _ _ ls h_ hP_ hD_ hS_ (lv_sub hl_ [3, 4, 5, 6, 1, 0] rfl)
        · refine lv_iload hx_ hb_ dX5_copy_32 (lv_at hl_ 0 rfl) ?_
          exact hE_ _ _ _ _ _ _ _ _ _ h_ dX5_copy_34 hP_ hD_ hS_
      · refine lv_bipush (v := jI (-2)) hx_ hb_ dX5_copy_15 (by decide +kernel) ?_
        exact hE_ _ _ _ _ _ _ _ _ _ h_ dX5_copy_17 hP_ hD_ hS_
  exact key_ _ (fun v9 rc9 stf9 kpf9 hsf9 H locs pc ls h9_ hdg_ hP_ hD_ hS_ => by cases h9_; exact jend_i hx_ hb_ hr_ hlocks_ hP_ hD_ hS_ hdg_)
def rm_X5_character : Room := { frames := 0, cells := 0, slots := 0, locals := 0 }
set_option maxRecDepth 100000 in
set_option maxHeartbeats 8000000 in
theorem c_X5_character (l : Launch) (D : va_G) (y : Nat → ClassId) (z : Nat → Nat) (a : Nat → Nat) (rc : Int) (is_ : Int → Int) (pd : Int → Int) (pn : Int) (ho : Int → Int) (eh : Int → Int) (mv : Int → Int) (at_ : Int) (tk : Int) (fs : Int) (lt : Int) (ea : Int) (stf : Int → Int) (kpf : Int → Int) (hsf : Int → Int) (slf : Int → Int) (x1 : Int) (fu : Nat) (rr : Int) (h_ : f_X5_character fu pd pn x1 = some rr) : jCI l D y z yX5_character wsX5_character rm_X5_character [.ref (a 0), .int (jI x1)] [(wMo y a rc is_ pd pn ho eh mv at_ tk fs lt ea), (wAr y (a 6) 205 stf), (wAr y (a 7) 205 kpf), (wAr y (a 8) 1230 hsf), (wAr y (a 9) 410 slf)] [(wMo y a rc is_ pd pn ho eh mv at_ tk fs lt ea), (wAr y (a 6) 205 stf), (wAr y (a 7) 205 kpf), (wAr y (a 8) 1230 hsf), (wAr y (a 9) 410 slf)] rr := by
  intro sz
  refine jmet (Qc := (fun A => va_Qi (fun v (_ : Unit) => v = jI rr) (jB D A [(wMo y a rc is_ pd pn ho eh mv at_ tk fs lt ea), (wAr y (a 6) 205 stf), (wAr y (a 7) 205 kpf), (wAr y (a 8) 1230 hsf), (wAr y (a 9) 410 slf)]) A)) (cc := cX5_character) (maxL := 2) (ret := (some .int)) (own := RX5) (by decide) rfl (Nat.le_of_ble_eq_true rfl) rfl (fun p e s m R args below meth c A ls hR_ hargs_ hx_ hb_ hr_ hlocks_ hml_ hown_ hts_ hname_ hsz_ hP_ hD_ hA_ hM_ hl_ => ?_)
  have key_ : ∀ Q : State → Prop, (∀ (v9 : Int) (H : Heap) (locs : List Loc) (pc : Nat) (ls : Array Slot), some v9 = some rr → decode cX5_character pc = .ok (.ireturn, 1) → va_P D vwCl [(wMo y a rc is_ pd pn ho eh mv at_ tk fs lt ea), (wAr y (a 6) 205 stf), (wAr y (a 7) 205 kpf), (wAr y (a 8) 1230 hsf), (wAr y (a 9) 410 slf)].flatten H → va_D A [(wMo y a rc is_ pd pn ho eh mv at_ tk fs lt ea), (wAr y (a 6) 205 stf), (wAr y (a 7) 205 kpf), (wAr y (a 8) 1230 hsf), (wAr y (a 9) 410 slf)].flatten → va_S A s.heap H locs → W p l e R s m args below meth c H locs 0 0 Q (F0 m pc ls [.int (jI v9)])) → W p l e R s m args below meth c s.heap [] 0 0 Q (F0 m 0 ls []) := by
    intro Q hE_
    have hS_ : va_S A s.heap s.heap [] := va_S.rf
    have hl_ : lv_has ls 2 [(0, .ref (a 0)), (1, .int (jI x1))] := hl_
    have hin_ : ∀ w ∈ u_ws RX5 TX5 16, w ∈ wsX5_character := by decide +kernel
    unfold f_X5_character at h_
    refine lv_iload_n hx_ hb_ dX5_character_0 rfl (lv_at hl_ 1 rfl) ?_
    refine lv_aload_n hx_ hb_ dX5_character_1 rfl (lv_at hl_ 0 rfl) ?_
    refine va_get (D := D) (ci := 5) (v := .int (jI pn)) (C := RX5) (T := TX5) (N := 16) hx_ hb_ hts_ hin_ hown_ hM_.1 hP_ 0 rfl rfl 7 (by decide) (hts_ (.fieldLink RX5 145 "MusicHolesModel" "padLength" "I") (by decide +kernel)) (fun _ h9_ => h9_) rfl dX5_character_2 ?_
    refine jx_icmp_ge (tgt := 17) hx_ hb_ h_ dX5_character_5 (by decide) (fun h_ => ?_) (fun h_ => ?_)
    · refine lv_iconst (v := jI (-1)) hx_ hb_ dX5_character_17 (by decide +kernel) ?_
      exact hE_ _ _ _ _ _ h_ dX5_character_18 hP_ hD_ hS_
    · refine lv_aload_n hx_ hb_ dX5_character_8 rfl (lv_at hl_ 0 rfl) ?_
      refine va_get (D := D) (ci := 5) (v := .ref (a 2)) (C := RX5) (T := TX5) (N := 16) hx_ hb_ hts_ hin_ hown_ hM_.1 hP_ 0 rfl rfl 6 (by decide) (hts_ (.fieldLink RX5 25 "MusicHolesModel" "pad" "[I") (by decide +kernel)) (fun _ h9_ => h9_) rfl dX5_character_9 ?_
      refine lv_iload_n hx_ hb_ dX5_character_12 rfl (lv_at hl_ 1 rfl) ?_
      refine jx_iald hx_ hb_ hM_ hP_ 2 0 rfl rfl rfl (Nat.le_of_ble_eq_true rfl) h_ dX5_character_13 (fun h_ => ?_)
      refine lv_goto (tgt := 18) hx_ hb_ dX5_character_14 (by decide) ?_
      exact hE_ _ _ _ _ _ h_ dX5_character_18 hP_ hD_ hS_
  exact key_ _ (fun v9 H locs pc ls h9_ hdg_ hP_ hD_ hS_ => by cases h9_; exact jend_i hx_ hb_ hr_ hlocks_ hP_ hD_ hS_ hdg_)
def rm_X5_takeNumber : Room := { frames := 1, cells := 0, slots := 0, locals := 22 }
set_option maxRecDepth 100000 in
set_option maxHeartbeats 8000000 in
theorem c_X5_takeNumber (l : Launch) (D : va_G) (y : Nat → ClassId) (z : Nat → Nat) (a : Nat → Nat) (rc : Int) (is_ : Int → Int) (pd : Int → Int) (pn : Int) (ho : Int → Int) (eh : Int → Int) (mv : Int → Int) (at_ : Int) (tk : Int) (fs : Int) (lt : Int) (ea : Int) (stf : Int → Int) (kpf : Int → Int) (hsf : Int → Int) (slf : Int → Int) (x1 : Int) (fu : Nat) (rr : Int) (q_at_ : Int) (h_ : f_X5_takeNumber fu pd pn at_ x1 = some (rr, q_at_)) : jCI l D y z yX5_takeNumber wsX5_takeNumber rm_X5_takeNumber [.ref (a 0), .int (jI x1)] [(wMo y a rc is_ pd pn ho eh mv at_ tk fs lt ea), (wAr y (a 6) 205 stf), (wAr y (a 7) 205 kpf), (wAr y (a 8) 1230 hsf), (wAr y (a 9) 410 slf)] [(wMo y a rc is_ pd pn ho eh mv q_at_ tk fs lt ea), (wAr y (a 6) 205 stf), (wAr y (a 7) 205 kpf), (wAr y (a 8) 1230 hsf), (wAr y (a 9) 410 slf)] rr := by
  intro sz
  refine jmet (Qc := (fun A => va_Qi (fun v (_ : Unit) => v = jI rr) (jB D A [(wMo y a rc is_ pd pn ho eh mv q_at_ tk fs lt ea), (wAr y (a 6) 205 stf), (wAr y (a 7) 205 kpf), (wAr y (a 8) 1230 hsf), (wAr y (a 9) 410 slf)]) A)) (cc := cX5_takeNumber) (maxL := 4) (ret := (some .int)) (own := RX5) (by decide) rfl (Nat.le_of_ble_eq_true rfl) rfl (fun p e s m R args below meth c A ls hR_ hargs_ hx_ hb_ hr_ hlocks_ hml_ hown_ hts_ hname_ hsz_ hP_ hD_ hA_ hM_ hl_ => ?_)
  have key_ : ∀ Q : State → Prop, (∀ (v9 : Int) (at_9 : Int) (H : Heap) (locs : List Loc) (pc : Nat) (ls : Array Slot), some (v9, at_9) = some (rr, q_at_) → decode cX5_takeNumber pc = .ok (.ireturn, 1) → va_P D vwCl [(wMo y a rc is_ pd pn ho eh mv at_9 tk fs lt ea), (wAr y (a 6) 205 stf), (wAr y (a 7) 205 kpf), (wAr y (a 8) 1230 hsf), (wAr y (a 9) 410 slf)].flatten H → va_D A [(wMo y a rc is_ pd pn ho eh mv at_9 tk fs lt ea), (wAr y (a 6) 205 stf), (wAr y (a 7) 205 kpf), (wAr y (a 8) 1230 hsf), (wAr y (a 9) 410 slf)].flatten → va_S A s.heap H locs → W p l e R s m args below meth c H locs 0 0 Q (F0 m pc ls [.int (jI v9)])) → W p l e R s m args below meth c s.heap [] 0 0 Q (F0 m 0 ls []) := by
    intro Q hE_
    have hS_ : va_S A s.heap s.heap [] := va_S.rf
    have hl_ : lv_has ls 4 [(0, .ref (a 0)), (1, .int (jI x1))] := hl_
    have hin_ : ∀ w ∈ u_ws RX5 TX5 16, w ∈ wsX5_takeNumber := by decide +kernel
    unfold f_X5_takeNumber at h_
    refine lv_iconst (v := jI (-1)) hx_ hb_ dX5_takeNumber_0 (by decide +kernel) ?_
    refine lv_istore_n (lv' := [(2, .int (jI (-1))), (0, .ref (a 0)), (1, .int (jI x1))]) hx_ hb_ dX5_takeNumber_1 rfl hl_ (by decide) rfl (fun ls hl_ => ?_)
    refine lv_aload_n hx_ hb_ dX5_takeNumber_2 rfl (lv_at hl_ 1 rfl) ?_
    refine lv_aload_n hx_ hb_ dX5_takeNumber_3 rfl (lv_at hl_ 1 rfl) ?_
    refine va_get (D := D) (ci := 5) (v := .int (jI at_)) (C := RX5) (T := TX5) (N := 16) hx_ hb_ hts_ hin_ hown_ hM_.1 hP_ 0 rfl rfl 11 (by decide) (hts_ (.fieldLink RX5 142 "MusicHolesModel" "at" "I") (by decide +kernel)) (fun _ h9_ => h9_) rfl dX5_takeNumber_4 ?_
    obtain ⟨v1, hv1, h_⟩ := jb_i h_
    refine jx_cvi (wr := []) (cw := [(wMo y a rc is_ pd pn ho eh mv at_ tk fs lt ea), (wAr y (a 6) 205 stf), (wAr y (a 7) 205 kpf), (wAr y (a 8) 1230 hsf), (wAr y (a 9) 410 slf)]) (cw1 := [(wMo y a rc is_ pd pn ho eh mv at_ tk fs lt ea), (wAr y (a 6) 205 stf), (wAr y (a 7) 205 kpf), (wAr y (a 8) 1230 hsf), (wAr y (a 9) 410 slf)]) (cs1 := [(wMo y a rc is_ pd pn ho eh mv at_ tk fs lt ea), (wAr y (a 6) 205 stf), (wAr y (a 7) 205 kpf), (wAr y (a 8) 1230 hsf), (wAr y (a 9) 410 slf)]) (As := [.int (jI at_)]) (rest := []) ⟨hx_, hb_, hml_, hown_, hts_⟩ hM_ hP_ hD_ hS_ hA_ (List.Perm.refl _) (List.Perm.refl _) (c_X5_character l D y z a rc is_ pd pn ho eh mv at_ tk fs lt ea stf kpf hsf slf at_ fu v1 hv1) 1 gX5_takeNumber_X5_character rfl ⟨rfl, rfl⟩ (by decide +kernel) ⟨by rw [hR_]; exact Nat.le_of_ble_eq_true rfl, by rw [hR_]; exact Nat.le_of_ble_eq_true rfl⟩ 0 5 rfl rfl rfl rfl rfl hl_.1 (Nat.le_of_ble_eq_true rfl) dX5_takeNumber_7 ⟨Nat.zero_le _, Nat.zero_le _⟩ (fun H locs hP_ hD_ hS_ => ?_)
    refine lv_bipush (v := jI 48) hx_ hb_ dX5_takeNumber_10 (by decide +kernel) ?_
    refine lv_bipush (v := jI 57) hx_ hb_ dX5_takeNumber_12 (by decide +kernel) ?_
    obtain ⟨v2, hv2, h_⟩ := jb_i h_
    refine jx_csi (b := 0) (C := "") (wr := [(wMo y a rc is_ pd pn ho eh mv at_ tk fs lt ea), (wAr y (a 6) 205 stf), (wAr y (a 7) 205 kpf), (wAr y (a 8) 1230 hsf), (wAr y (a 9) 410 slf)]) (cw := []) (cw1 := []) (cs1 := [(wMo y a rc is_ pd pn ho eh mv at_ tk fs lt ea), (wAr y (a 6) 205 stf), (wAr y (a 7) 205 kpf), (wAr y (a 8) 1230 hsf), (wAr y (a 9) 410 slf)]) (As := [.int (jI v1), .int (jI 48), .int (jI 57)]) (rest := []) ⟨hx_, hb_, hml_, hown_, hts_⟩ hM_ hP_ hD_ hS_ hA_ (List.Perm.of_eq (List.append_nil _).symm) (List.Perm.of_eq (List.append_nil _)) (c_X5_within l D y z v1 48 57 fu v2 hv2) 3 (va_cwS 3 hts_ gX5_takeNumber_X5_within rfl rfl rfl (by decide +kernel) ⟨by rw [hR_]; exact Nat.le_of_ble_eq_true rfl, by rw [hR_]; exact Nat.le_of_ble_eq_true rfl⟩) rfl ⟨rfl, rfl⟩ ⟨by rw [hR_]; exact Nat.le_of_ble_eq_true rfl, by rw [hR_]; exact Nat.le_of_ble_eq_true rfl⟩ rfl rfl hl_.1 (Nat.le_of_ble_eq_true rfl) dX5_takeNumber_14 ⟨Nat.zero_le _, Nat.zero_le _⟩ (fun H locs hP_ hD_ hS_ => ?_)
    refine lv_istore_n (lv' := [(3, .int (jI v2)), (2, .int (jI (-1))), (0, .ref (a 0)), (1, .int (jI x1))]) hx_ hb_ dX5_takeNumber_17 rfl hl_ (by decide) rfl (fun ls hl_ => ?_)
    have hX108 : ∀ (at__m3 : Int) (v4 : Int) (H : Heap) (locs : List Loc) (ls : Array Slot), f_X5_takeNumber_X108 fu at__m3 v4 = some (rr, q_at_) → va_P D vwCl [(wMo y a rc is_ pd pn ho eh mv at__m3 tk fs lt ea), (wAr y (a 6) 205 stf), (wAr y (a 7) 205 kpf), (wAr y (a 8) 1230 hsf), (wAr y (a 9) 410 slf)].flatten H → va_D A [(wMo y a rc is_ pd pn ho eh mv at__m3 tk fs lt ea), (wAr y (a 6) 205 stf), (wAr y (a 7) 205 kpf), (wAr y (a 8) 1230 hsf), (wAr y (a 9) 410 slf)].flatten → va_S A s.heap H locs → lv_has ls 4 [(2, .int (jI v4))] → W p l e R s m args below meth c H locs 0 0 Q (F0 m 108 ls []) := by
      intro at__m3 v4 H locs ls h_ hP_ hD_ hS_ hl_
      unfold f_X5_takeNumber_X108 at h_
      refine lv_iload_n hx_ hb_ dX5_takeNumber_108 rfl (lv_at hl_ 0 rfl) ?_
      exact hE_ _ _ _ _ _ _ h_ dX5_takeNumber_109 hP_ hD_ hS_
    have hL18 : ∀ n18 : Nat, ∀ (at__m5 : Int) (v6 : Int) (v7 : Int) (H : Heap) (locs : List Loc) (ls : Array Slot), f_X5_takeNumber_L18 fu pd pn x1 (f_X5_takeNumber_X108 fu) n18 at__m5 v6 v7 = some (rr, q_at_) → va_P D vwCl [(wMo y a rc is_ pd pn ho eh mv at__m5 tk fs lt ea), (wAr y (a 6) 205 stf), (wAr y (a 7) 205 kpf), (wAr y (a 8) 1230 hsf), (wAr y (a 9) 410 slf)].flatten H → va_D A [(wMo y a rc is_ pd pn ho eh mv at__m5 tk fs lt ea), (wAr y (a 6) 205 stf), (wAr y (a 7) 205 kpf), (wAr y (a 8) 1230 hsf), (wAr y (a 9) 410 slf)].flatten → va_S A s.heap H locs → lv_has ls 4 [(0, .ref (a 0)), (1, .int (jI x1)), (2, .int (jI v6)), (3, .int (jI v7))] → W p l e R s m args below meth c H locs 0 0 Q (F0 m 18 ls []) := by
      intro n18
      induction n18 with
      | zero => intro _ _ _ H locs ls h_; have h_ : (none : Option (Int × Int)) = some (rr, q_at_) := h_; cases h_
      | succ n18 ih18 =>
        intro at__m5 v6 v7 H locs ls h_ hP_ hD_ hS_ hl_
        replace h_ : f_X5_takeNumber_L18_b fu pd pn x1 (f_X5_takeNumber_X108 fu) (f_X5_takeNumber_L18 fu pd pn x1 (f_X5_takeNumber_X108 fu) n18) at__m5 v6 v7 = some (rr, q_at_) := h_
        unfold f_X5_takeNumber_L18_b at h_
        refine lv_iload_n hx_ hb_ dX5_takeNumber_18 rfl (lv_at hl_ 3 rfl) ?_
        refine jx_if_eq (tgt := 108) hx_ hb_ h_ dX5_takeNumber_19 (by decide) (fun h_ => ?_) (fun h_ => ?_)
        · exact hX108 _ _ _ _ ls h_ hP_ hD_ hS_ (lv_sub hl_ [2] rfl)
        · refine lv_iload_n hx_ hb_ dX5_takeNumber_22 rfl (lv_at hl_ 2 rfl) ?_
          have hJ34 : ∀ (v8 : Int) (H : Heap) (locs : List Loc) (ls : Array Slot), f_X5_takeNumber_J34 fu pd pn x1 at__m5 (f_X5_takeNumber_L18 fu pd pn x1 (f_X5_takeNumber_X108 fu) n18) v8 = some (rr, q_at_) → va_P D vwCl [(wMo y a rc is_ pd pn ho eh mv at__m5 tk fs lt ea), (wAr y (a 6) 205 stf), (wAr y (a 7) 205 kpf), (wAr y (a 8) 1230 hsf), (wAr y (a 9) 410 slf)].flatten H → va_D A [(wMo y a rc is_ pd pn ho eh mv at__m5 tk fs lt ea), (wAr y (a 6) 205 stf), (wAr y (a 7) 205 kpf), (wAr y (a 8) 1230 hsf), (wAr y (a 9) 410 slf)].flatten → va_S A s.heap H locs → lv_has ls 4 [(0, .ref (a 0)), (1, .int (jI x1))] → W p l e R s m args below meth c H locs 0 0 Q (F0 m 34 ls [.int (jI v8)]) := by
            intro v8 H locs ls h_ hP_ hD_ hS_ hl_
            unfold f_X5_takeNumber_J34 at h_
            refine lv_aload_n hx_ hb_ dX5_takeNumber_34 rfl (lv_at hl_ 0 rfl) ?_
            refine lv_aload_n hx_ hb_ dX5_takeNumber_35 rfl (lv_at hl_ 0 rfl) ?_
            refine va_get (D := D) (ci := 5) (v := .int (jI at__m5)) (C := RX5) (T := TX5) (N := 16) hx_ hb_ hts_ hin_ hown_ hM_.1 hP_ 0 rfl rfl 11 (by decide) (hts_ (.fieldLink RX5 142 "MusicHolesModel" "at" "I") (by decide +kernel)) (fun _ h9_ => h9_) rfl dX5_takeNumber_36 ?_
            obtain ⟨v9, hv9, h_⟩ := jb_i h_
            refine jx_cvi (wr := []) (cw := [(wMo y a rc is_ pd pn ho eh mv at__m5 tk fs lt ea), (wAr y (a 6) 205 stf), (wAr y (a 7) 205 kpf), (wAr y (a 8) 1230 hsf), (wAr y (a 9) 410 slf)]) (cw1 := [(wMo y a rc is_ pd pn ho eh mv at__m5 tk fs lt ea), (wAr y (a 6) 205 stf), (wAr y (a 7) 205 kpf), (wAr y (a 8) 1230 hsf), (wAr y (a 9) 410 slf)]) (cs1 := [(wMo y a rc is_ pd pn ho eh mv at__m5 tk fs lt ea), (wAr y (a 6) 205 stf), (wAr y (a 7) 205 kpf), (wAr y (a 8) 1230 hsf), (wAr y (a 9) 410 slf)]) (As := [.int (jI at__m5)]) (rest := [.int (jI v8)]) ⟨hx_, hb_, hml_, hown_, hts_⟩ hM_ hP_ hD_ hS_ hA_ (List.Perm.refl _) (List.Perm.refl _) (c_X5_character l D y z a rc is_ pd pn ho eh mv at__m5 tk fs lt ea stf kpf hsf slf at__m5 fu v9 hv9) 1 gX5_takeNumber_X5_character rfl ⟨rfl, rfl⟩ (by decide +kernel) ⟨by rw [hR_]; exact Nat.le_of_ble_eq_true rfl, by rw [hR_]; exact Nat.le_of_ble_eq_true rfl⟩ 0 5 rfl rfl rfl rfl rfl hl_.1 (Nat.le_of_ble_eq_true rfl) dX5_takeNumber_39 ⟨Nat.zero_le _, Nat.zero_le _⟩ (fun H locs hP_ hD_ hS_ => ?_)
            refine jx_iadd hx_ hb_ dX5_takeNumber_42 ?_
            refine lv_bipush (v := jI 48) hx_ hb_ dX5_takeNumber_43 (by decide +kernel) ?_
            refine jx_isub hx_ hb_ dX5_takeNumber_45 ?_
            refine lv_istore_n (lv' := [(2, .int (jI ((v8 + v9) - 48))), (0, .ref (a 0)), (1, .int (jI x1))]) hx_ hb_ dX5_takeNumber_46 rfl hl_ (by decide) rfl (fun ls hl_ => ?_)
            refine lv_aload_n hx_ hb_ dX5_takeNumber_47 rfl (lv_at hl_ 1 rfl) ?_
            refine lv_dup hx_ hb_ dX5_takeNumber_48 rfl ?_
            refine va_get (D := D) (ci := 5) (v := .int (jI at__m5)) (C := RX5) (T := TX5) (N := 16) hx_ hb_ hts_ hin_ hown_ hM_.1 hP_ 0 rfl rfl 11 (by decide) (hts_ (.fieldLink RX5 142 "MusicHolesModel" "at" "I") (by decide +kernel)) (fun _ h9_ => h9_) rfl dX5_takeNumber_49 ?_
            refine lv_iconst (v := jI 1) hx_ hb_ dX5_takeNumber_52 (by decide +kernel) ?_
            refine jx_iadd hx_ hb_ dX5_takeNumber_53 ?_
            refine va_put (D := D) (ci := 5) (v := .int (jI (at__m5 + 1))) (ty := .int) (C := RX5) (T := TX5) (N := 16) hx_ hb_ hts_ hin_ tyX5 tyX5_ok nmX5 hown_ hM_.1 hP_ hD_ hS_ 0 rfl rfl 11 (by decide) (hts_ (.fieldLink RX5 142 "MusicHolesModel" "at" "I") (by decide +kernel)) (fun _ h9_ => h9_) rfl (by decide +kernel) rfl rfl (Nat.le_of_ble_eq_true rfl) dX5_takeNumber_54 (fun H locs hP_ hD_ hS_ => ?_)
            have hP_ : va_P D vwCl [(wMo y a rc is_ pd pn ho eh mv (at__m5 + 1) tk fs lt ea), (wAr y (a 6) 205 stf), (wAr y (a 7) 205 kpf), (wAr y (a 8) 1230 hsf), (wAr y (a 9) 410 slf)].flatten H := hP_
            have hD_ : va_D A [(wMo y a rc is_ pd pn ho eh mv (at__m5 + 1) tk fs lt ea), (wAr y (a 6) 205 stf), (wAr y (a 7) 205 kpf), (wAr y (a 8) 1230 hsf), (wAr y (a 9) 410 slf)].flatten := hD_
            refine lv_iload_n hx_ hb_ dX5_takeNumber_57 rfl (lv_at hl_ 0 rfl) ?_
            refine jx_if_le (tgt := 103) hx_ hb_ h_ dX5_takeNumber_58 (by decide) (fun h_ => ?_) (fun h_ => ?_)
            · refine lv_iconst (v := jI 0) hx_ hb_ dX5_takeNumber_103 (by decide +kernel) ?_
              refine lv_istore_n (lv' := [(3, .int (jI 0)), (2, .int (jI ((v8 + v9) - 48))), (0, .ref (a 0)), (1, .int (jI x1))]) hx_ hb_ dX5_takeNumber_104 rfl hl_ (by decide) rfl (fun ls hl_ => ?_)
              refine lv_goto (tgt := 18) hx_ hb_ dX5_takeNumber_105 (by decide) ?_
              exact ih18 _ _ _ _ _ ls h_ hP_ hD_ hS_ (lv_sub hl_ [2, 3, 1, 0] rfl)
            · refine lv_aload_n hx_ hb_ dX5_takeNumber_61 rfl (lv_at hl_ 1 rfl) ?_
              refine lv_aload_n hx_ hb_ dX5_takeNumber_62 rfl (lv_at hl_ 1 rfl) ?_
              refine va_get (D := D) (ci := 5) (v := .int (jI (at__m5 + 1))) (C := RX5) (T := TX5) (N := 16) hx_ hb_ hts_ hin_ hown_ hM_.1 hP_ 0 rfl rfl 11 (by decide) (hts_ (.fieldLink RX5 142 "MusicHolesModel" "at" "I") (by decide +kernel)) (fun _ h9_ => h9_) rfl dX5_takeNumber_63 ?_
              obtain ⟨v10, hv10, h_⟩ := jb_i h_
              refine jx_cvi (wr := []) (cw := [(wMo y a rc is_ pd pn ho eh mv (at__m5 + 1) tk fs lt ea), (wAr y (a 6) 205 stf), (wAr y (a 7) 205 kpf), (wAr y (a 8) 1230 hsf), (wAr y (a 9) 410 slf)]) (cw1 := [(wMo y a rc is_ pd pn ho eh mv (at__m5 + 1) tk fs lt ea), (wAr y (a 6) 205 stf), (wAr y (a 7) 205 kpf), (wAr y (a 8) 1230 hsf), (wAr y (a 9) 410 slf)]) (cs1 := [(wMo y a rc is_ pd pn ho eh mv (at__m5 + 1) tk fs lt ea), (wAr y (a 6) 205 stf), (wAr y (a 7) 205 kpf), (wAr y (a 8) 1230 hsf), (wAr y (a 9) 410 slf)]) (As := [.int (jI (at__m5 + 1))]) (rest := []) ⟨hx_, hb_, hml_, hown_, hts_⟩ hM_ hP_ hD_ hS_ hA_ (List.Perm.refl _) (List.Perm.refl _) (c_X5_character l D y z a rc is_ pd pn ho eh mv (at__m5 + 1) tk fs lt ea stf kpf hsf slf (at__m5 + 1) fu v10 hv10) 1 gX5_takeNumber_X5_character rfl ⟨rfl, rfl⟩ (by decide +kernel) ⟨by rw [hR_]; exact Nat.le_of_ble_eq_true rfl, by rw [hR_]; exact Nat.le_of_ble_eq_true rfl⟩ 0 5 rfl rfl rfl rfl rfl hl_.1 (Nat.le_of_ble_eq_true rfl) dX5_takeNumber_66 ⟨Nat.zero_le _, Nat.zero_le _⟩ (fun H locs hP_ hD_ hS_ => ?_)
              refine lv_bipush (v := jI 48) hx_ hb_ dX5_takeNumber_69 (by decide +kernel) ?_
              refine lv_bipush (v := jI 57) hx_ hb_ dX5_takeNumber_71 (by decide +kernel) ?_
              obtain ⟨v11, hv11, h_⟩ := jb_i h_
              refine jx_csi (b := 0) (C := "") (wr := [(wMo y a rc is_ pd pn ho eh mv (at__m5 + 1) tk fs lt ea), (wAr y (a 6) 205 stf), (wAr y (a 7) 205 kpf), (wAr y (a 8) 1230 hsf), (wAr y (a 9) 410 slf)]) (cw := []) (cw1 := []) (cs1 := [(wMo y a rc is_ pd pn ho eh mv (at__m5 + 1) tk fs lt ea), (wAr y (a 6) 205 stf), (wAr y (a 7) 205 kpf), (wAr y (a 8) 1230 hsf), (wAr y (a 9) 410 slf)]) (As := [.int (jI v10), .int (jI 48), .int (jI 57)]) (rest := []) ⟨hx_, hb_, hml_, hown_, hts_⟩ hM_ hP_ hD_ hS_ hA_ (List.Perm.of_eq (List.append_nil _).symm) (List.Perm.of_eq (List.append_nil _)) (c_X5_within l D y z v10 48 57 fu v11 hv11) 3 (va_cwS 3 hts_ gX5_takeNumber_X5_within rfl rfl rfl (by decide +kernel) ⟨by rw [hR_]; exact Nat.le_of_ble_eq_true rfl, by rw [hR_]; exact Nat.le_of_ble_eq_true rfl⟩) rfl ⟨rfl, rfl⟩ ⟨by rw [hR_]; exact Nat.le_of_ble_eq_true rfl, by rw [hR_]; exact Nat.le_of_ble_eq_true rfl⟩ rfl rfl hl_.1 (Nat.le_of_ble_eq_true rfl) dX5_takeNumber_73 ⟨Nat.zero_le _, Nat.zero_le _⟩ (fun H locs hP_ hD_ hS_ => ?_)
              refine jx_if_eq (tgt := 103) hx_ hb_ h_ dX5_takeNumber_76 (by decide) (fun h_ => ?_) (fun h_ => ?_)
              · refine lv_iconst (v := jI 0) hx_ hb_ dX5_takeNumber_103 (by decide +kernel) ?_
                refine lv_istore_n (lv' := [(3, .int (jI 0)), (2, .int (jI ((v8 + v9) - 48))), (0, .ref (a 0)), (1, .int (jI x1))]) hx_ hb_ dX5_takeNumber_104 rfl hl_ (by decide) rfl (fun ls hl_ => ?_)
                refine lv_goto (tgt := 18) hx_ hb_ dX5_takeNumber_105 (by decide) ?_
                exact ih18 _ _ _ _ _ ls h_ hP_ hD_ hS_ (lv_sub hl_ [2, 3, 1, 0] rfl)
              · refine lv_bipush (v := jI 10) hx_ hb_ dX5_takeNumber_79 (by decide +kernel) ?_
                refine lv_iload_n hx_ hb_ dX5_takeNumber_81 rfl (lv_at hl_ 0 rfl) ?_
                refine jx_imul hx_ hb_ dX5_takeNumber_82 ?_
                refine lv_aload_n hx_ hb_ dX5_takeNumber_83 rfl (lv_at hl_ 1 rfl) ?_
                refine lv_aload_n hx_ hb_ dX5_takeNumber_84 rfl (lv_at hl_ 1 rfl) ?_
                refine va_get (D := D) (ci := 5) (v := .int (jI (at__m5 + 1))) (C := RX5) (T := TX5) (N := 16) hx_ hb_ hts_ hin_ hown_ hM_.1 hP_ 0 rfl rfl 11 (by decide) (hts_ (.fieldLink RX5 142 "MusicHolesModel" "at" "I") (by decide +kernel)) (fun _ h9_ => h9_) rfl dX5_takeNumber_85 ?_
                obtain ⟨v12, hv12, h_⟩ := jb_i h_
                refine jx_cvi (wr := []) (cw := [(wMo y a rc is_ pd pn ho eh mv (at__m5 + 1) tk fs lt ea), (wAr y (a 6) 205 stf), (wAr y (a 7) 205 kpf), (wAr y (a 8) 1230 hsf), (wAr y (a 9) 410 slf)]) (cw1 := [(wMo y a rc is_ pd pn ho eh mv (at__m5 + 1) tk fs lt ea), (wAr y (a 6) 205 stf), (wAr y (a 7) 205 kpf), (wAr y (a 8) 1230 hsf), (wAr y (a 9) 410 slf)]) (cs1 := [(wMo y a rc is_ pd pn ho eh mv (at__m5 + 1) tk fs lt ea), (wAr y (a 6) 205 stf), (wAr y (a 7) 205 kpf), (wAr y (a 8) 1230 hsf), (wAr y (a 9) 410 slf)]) (As := [.int (jI (at__m5 + 1))]) (rest := [.int (jI (10 * ((v8 + v9) - 48)))]) ⟨hx_, hb_, hml_, hown_, hts_⟩ hM_ hP_ hD_ hS_ hA_ (List.Perm.refl _) (List.Perm.refl _) (c_X5_character l D y z a rc is_ pd pn ho eh mv (at__m5 + 1) tk fs lt ea stf kpf hsf slf (at__m5 + 1) fu v12 hv12) 1 gX5_takeNumber_X5_character rfl ⟨rfl, rfl⟩ (by decide +kernel) ⟨by rw [hR_]; exact Nat.le_of_ble_eq_true rfl, by rw [hR_]; exact Nat.le_of_ble_eq_true rfl⟩ 0 5 rfl rfl rfl rfl rfl hl_.1 (Nat.le_of_ble_eq_true rfl) dX5_takeNumber_88 ⟨Nat.zero_le _, Nat.zero_le _⟩ (fun H locs hP_ hD_ hS_ => ?_)
                refine jx_iadd hx_ hb_ dX5_takeNumber_91 ?_
                refine lv_bipush (v := jI 48) hx_ hb_ dX5_takeNumber_92 (by decide +kernel) ?_
                refine jx_isub hx_ hb_ dX5_takeNumber_94 ?_
                refine lv_iload_n hx_ hb_ dX5_takeNumber_95 rfl (lv_at hl_ 2 rfl) ?_
                refine jx_icmp_gt (tgt := 103) hx_ hb_ h_ dX5_takeNumber_96 (by decide) (fun h_ => ?_) (fun h_ => ?_)
                · refine lv_iconst (v := jI 0) hx_ hb_ dX5_takeNumber_103 (by decide +kernel) ?_
                  refine lv_istore_n (lv' := [(3, .int (jI 0)), (2, .int (jI ((v8 + v9) - 48))), (0, .ref (a 0)), (1, .int (jI x1))]) hx_ hb_ dX5_takeNumber_104 rfl hl_ (by decide) rfl (fun ls hl_ => ?_)
                  refine lv_goto (tgt := 18) hx_ hb_ dX5_takeNumber_105 (by decide) ?_
                  exact ih18 _ _ _ _ _ ls h_ hP_ hD_ hS_ (lv_sub hl_ [2, 3, 1, 0] rfl)
                · refine lv_iconst (v := jI 1) hx_ hb_ dX5_takeNumber_99 (by decide +kernel) ?_
                  refine lv_goto (tgt := 104) hx_ hb_ dX5_takeNumber_100 (by decide) ?_
                  refine lv_istore_n (lv' := [(3, .int (jI 1)), (2, .int (jI ((v8 + v9) - 48))), (0, .ref (a 0)), (1, .int (jI x1))]) hx_ hb_ dX5_takeNumber_104 rfl hl_ (by decide) rfl (fun ls hl_ => ?_)
                  refine lv_goto (tgt := 18) hx_ hb_ dX5_takeNumber_105 (by decide) ?_
                  exact ih18 _ _ _ _ _ ls h_ hP_ hD_ hS_ (lv_sub hl_ [2, 3, 1, 0] rfl)
          refine jx_if_ge (tgt := 30) hx_ hb_ h_ dX5_takeNumber_23 (by decide) (fun h_ => ?_) (fun h_ => ?_)
          · refine lv_bipush (v := jI 10) hx_ hb_ dX5_takeNumber_30 (by decide +kernel) ?_
            refine lv_iload_n hx_ hb_ dX5_takeNumber_32 rfl (lv_at hl_ 2 rfl) ?_
            refine jx_imul hx_ hb_ dX5_takeNumber_33 ?_
            exact hJ34 _ _ _ ls h_ hP_ hD_ hS_ (lv_sub hl_ [0, 1] rfl)
          · refine lv_iconst (v := jI 0) hx_ hb_ dX5_takeNumber_26 (by decide +kernel) ?_
            refine lv_goto (tgt := 34) hx_ hb_ dX5_takeNumber_27 (by decide) ?_
            exact hJ34 _ _ _ ls h_ hP_ hD_ hS_ (lv_sub hl_ [0, 1] rfl)
    exact hL18 fu _ _ _ _ _ ls h_ hP_ hD_ hS_ (lv_sub hl_ [2, 3, 1, 0] rfl)
  exact key_ _ (fun v9 at_9 H locs pc ls h9_ hdg_ hP_ hD_ hS_ => by cases h9_; exact jend_i hx_ hb_ hr_ hlocks_ hP_ hD_ hS_ hdg_)
def rm_X5_isNext : Room := { frames := 1, cells := 0, slots := 0, locals := 21 }
set_option maxRecDepth 100000 in
set_option maxHeartbeats 8000000 in
theorem c_X5_isNext (l : Launch) (D : va_G) (y : Nat → ClassId) (z : Nat → Nat) (a : Nat → Nat) (rc : Int) (is_ : Int → Int) (pd : Int → Int) (pn : Int) (ho : Int → Int) (eh : Int → Int) (mv : Int → Int) (at_ : Int) (tk : Int) (fs : Int) (lt : Int) (ea : Int) (stf : Int → Int) (kpf : Int → Int) (hsf : Int → Int) (slf : Int → Int) (x1 : Int) (fu : Nat) (rr : Int) (q_at_ : Int) (h_ : f_X5_isNext fu pd pn at_ x1 = some (rr, q_at_)) : jCI l D y z yX5_isNext wsX5_isNext rm_X5_isNext [.ref (a 0), .int (jI x1)] [(wMo y a rc is_ pd pn ho eh mv at_ tk fs lt ea), (wAr y (a 6) 205 stf), (wAr y (a 7) 205 kpf), (wAr y (a 8) 1230 hsf), (wAr y (a 9) 410 slf)] [(wMo y a rc is_ pd pn ho eh mv q_at_ tk fs lt ea), (wAr y (a 6) 205 stf), (wAr y (a 7) 205 kpf), (wAr y (a 8) 1230 hsf), (wAr y (a 9) 410 slf)] rr := by
  intro sz
  refine jmet (Qc := (fun A => va_Qi (fun v (_ : Unit) => v = jI rr) (jB D A [(wMo y a rc is_ pd pn ho eh mv q_at_ tk fs lt ea), (wAr y (a 6) 205 stf), (wAr y (a 7) 205 kpf), (wAr y (a 8) 1230 hsf), (wAr y (a 9) 410 slf)]) A)) (cc := cX5_isNext) (maxL := 3) (ret := (some .boolean)) (own := RX5) (by decide) rfl (Nat.le_of_ble_eq_true rfl) rfl (fun p e s m R args below meth c A ls hR_ hargs_ hx_ hb_ hr_ hlocks_ hml_ hown_ hts_ hname_ hsz_ hP_ hD_ hA_ hM_ hl_ => ?_)
  have key_ : ∀ Q : State → Prop, (∀ (v9 : Int) (at_9 : Int) (H : Heap) (locs : List Loc) (pc : Nat) (ls : Array Slot), some (v9, at_9) = some (rr, q_at_) → (v9 = 0 ∨ v9 = 1) → decode cX5_isNext pc = .ok (.ireturn, 1) → va_P D vwCl [(wMo y a rc is_ pd pn ho eh mv at_9 tk fs lt ea), (wAr y (a 6) 205 stf), (wAr y (a 7) 205 kpf), (wAr y (a 8) 1230 hsf), (wAr y (a 9) 410 slf)].flatten H → va_D A [(wMo y a rc is_ pd pn ho eh mv at_9 tk fs lt ea), (wAr y (a 6) 205 stf), (wAr y (a 7) 205 kpf), (wAr y (a 8) 1230 hsf), (wAr y (a 9) 410 slf)].flatten → va_S A s.heap H locs → W p l e R s m args below meth c H locs 0 0 Q (F0 m pc ls [.int (jI v9)])) → W p l e R s m args below meth c s.heap [] 0 0 Q (F0 m 0 ls []) := by
    intro Q hE_
    have hS_ : va_S A s.heap s.heap [] := va_S.rf
    have hl_ : lv_has ls 3 [(0, .ref (a 0)), (1, .int (jI x1))] := hl_
    have hin_ : ∀ w ∈ u_ws RX5 TX5 16, w ∈ wsX5_isNext := by decide +kernel
    unfold f_X5_isNext at h_
    refine lv_aload_n hx_ hb_ dX5_isNext_0 rfl (lv_at hl_ 0 rfl) ?_
    refine lv_aload_n hx_ hb_ dX5_isNext_1 rfl (lv_at hl_ 0 rfl) ?_
    refine va_get (D := D) (ci := 5) (v := .int (jI at_)) (C := RX5) (T := TX5) (N := 16) hx_ hb_ hts_ hin_ hown_ hM_.1 hP_ 0 rfl rfl 11 (by decide) (hts_ (.fieldLink RX5 142 "MusicHolesModel" "at" "I") (by decide +kernel)) (fun _ h9_ => h9_) rfl dX5_isNext_2 ?_
    obtain ⟨v1, hv1, h_⟩ := jb_i h_
    refine jx_cvi (wr := []) (cw := [(wMo y a rc is_ pd pn ho eh mv at_ tk fs lt ea), (wAr y (a 6) 205 stf), (wAr y (a 7) 205 kpf), (wAr y (a 8) 1230 hsf), (wAr y (a 9) 410 slf)]) (cw1 := [(wMo y a rc is_ pd pn ho eh mv at_ tk fs lt ea), (wAr y (a 6) 205 stf), (wAr y (a 7) 205 kpf), (wAr y (a 8) 1230 hsf), (wAr y (a 9) 410 slf)]) (cs1 := [(wMo y a rc is_ pd pn ho eh mv at_ tk fs lt ea), (wAr y (a 6) 205 stf), (wAr y (a 7) 205 kpf), (wAr y (a 8) 1230 hsf), (wAr y (a 9) 410 slf)]) (As := [.int (jI at_)]) (rest := []) ⟨hx_, hb_, hml_, hown_, hts_⟩ hM_ hP_ hD_ hS_ hA_ (List.Perm.refl _) (List.Perm.refl _) (c_X5_character l D y z a rc is_ pd pn ho eh mv at_ tk fs lt ea stf kpf hsf slf at_ fu v1 hv1) 1 gX5_isNext_X5_character rfl ⟨rfl, rfl⟩ (by decide +kernel) ⟨by rw [hR_]; exact Nat.le_of_ble_eq_true rfl, by rw [hR_]; exact Nat.le_of_ble_eq_true rfl⟩ 0 5 rfl rfl rfl rfl rfl hl_.1 (Nat.le_of_ble_eq_true rfl) dX5_isNext_5 ⟨Nat.zero_le _, Nat.zero_le _⟩ (fun H locs hP_ hD_ hS_ => ?_)
    refine lv_iload_n hx_ hb_ dX5_isNext_8 rfl (lv_at hl_ 1 rfl) ?_
    have hJ17 : ∀ (v2 : Int) (H : Heap) (locs : List Loc) (ls : Array Slot), f_X5_isNext_J17 fu at_ v2 = some (rr, q_at_) → va_P D vwCl [(wMo y a rc is_ pd pn ho eh mv at_ tk fs lt ea), (wAr y (a 6) 205 stf), (wAr y (a 7) 205 kpf), (wAr y (a 8) 1230 hsf), (wAr y (a 9) 410 slf)].flatten H → va_D A [(wMo y a rc is_ pd pn ho eh mv at_ tk fs lt ea), (wAr y (a 6) 205 stf), (wAr y (a 7) 205 kpf), (wAr y (a 8) 1230 hsf), (wAr y (a 9) 410 slf)].flatten → va_S A s.heap H locs → lv_has ls 3 [(0, .ref (a 0))] → W p l e R s m args below meth c H locs 0 0 Q (F0 m 17 ls [.int (jI v2)]) := by
      intro v2 H locs ls h_ hP_ hD_ hS_ hl_
      unfold f_X5_isNext_J17 at h_
      refine lv_istore_n (lv' := [(2, .int (jI v2)), (0, .ref (a 0))]) hx_ hb_ dX5_isNext_17 rfl hl_ (by decide) rfl (fun ls hl_ => ?_)
      refine lv_aload_n hx_ hb_ dX5_isNext_18 rfl (lv_at hl_ 1 rfl) ?_
      refine lv_dup hx_ hb_ dX5_isNext_19 rfl ?_
      refine va_get (D := D) (ci := 5) (v := .int (jI at_)) (C := RX5) (T := TX5) (N := 16) hx_ hb_ hts_ hin_ hown_ hM_.1 hP_ 0 rfl rfl 11 (by decide) (hts_ (.fieldLink RX5 142 "MusicHolesModel" "at" "I") (by decide +kernel)) (fun _ h9_ => h9_) rfl dX5_isNext_20 ?_
      refine lv_iload_n hx_ hb_ dX5_isNext_23 rfl (lv_at hl_ 0 rfl) ?_
      have hJ32 : ∀ (v3 : Int) (H : Heap) (locs : List Loc) (ls : Array Slot), f_X5_isNext_J32 fu at_ v2 v3 = some (rr, q_at_) → va_P D vwCl [(wMo y a rc is_ pd pn ho eh mv at_ tk fs lt ea), (wAr y (a 6) 205 stf), (wAr y (a 7) 205 kpf), (wAr y (a 8) 1230 hsf), (wAr y (a 9) 410 slf)].flatten H → va_D A [(wMo y a rc is_ pd pn ho eh mv at_ tk fs lt ea), (wAr y (a 6) 205 stf), (wAr y (a 7) 205 kpf), (wAr y (a 8) 1230 hsf), (wAr y (a 9) 410 slf)].flatten → va_S A s.heap H locs → lv_has ls 3 [(2, .int (jI v2))] → W p l e R s m args below meth c H locs 0 0 Q (F0 m 32 ls [.int (jI v3), .int (jI at_), .ref (a 0)]) := by
        intro v3 H locs ls h_ hP_ hD_ hS_ hl_
        unfold f_X5_isNext_J32 at h_
        refine jx_iadd hx_ hb_ dX5_isNext_32 ?_
        refine va_put (D := D) (ci := 5) (v := .int (jI (at_ + v3))) (ty := .int) (C := RX5) (T := TX5) (N := 16) hx_ hb_ hts_ hin_ tyX5 tyX5_ok nmX5 hown_ hM_.1 hP_ hD_ hS_ 0 rfl rfl 11 (by decide) (hts_ (.fieldLink RX5 142 "MusicHolesModel" "at" "I") (by decide +kernel)) (fun _ h9_ => h9_) rfl (by decide +kernel) rfl rfl (Nat.le_of_ble_eq_true rfl) dX5_isNext_33 (fun H locs hP_ hD_ hS_ => ?_)
        have hP_ : va_P D vwCl [(wMo y a rc is_ pd pn ho eh mv (at_ + v3) tk fs lt ea), (wAr y (a 6) 205 stf), (wAr y (a 7) 205 kpf), (wAr y (a 8) 1230 hsf), (wAr y (a 9) 410 slf)].flatten H := hP_
        have hD_ : va_D A [(wMo y a rc is_ pd pn ho eh mv (at_ + v3) tk fs lt ea), (wAr y (a 6) 205 stf), (wAr y (a 7) 205 kpf), (wAr y (a 8) 1230 hsf), (wAr y (a 9) 410 slf)].flatten := hD_
        refine lv_iload_n hx_ hb_ dX5_isNext_36 rfl (lv_at hl_ 0 rfl) ?_
        obtain ⟨hz_, h_⟩ := jbo_i h_
        exact hE_ _ _ _ _ _ _ h_ hz_ dX5_isNext_37 hP_ hD_ hS_
      refine jx_if_eq (tgt := 31) hx_ hb_ h_ dX5_isNext_24 (by decide) (fun h_ => ?_) (fun h_ => ?_)
      · refine lv_iconst (v := jI 0) hx_ hb_ dX5_isNext_31 (by decide +kernel) ?_
        exact hJ32 _ _ _ ls h_ hP_ hD_ hS_ (lv_sub hl_ [0] rfl)
      · refine lv_iconst (v := jI 1) hx_ hb_ dX5_isNext_27 (by decide +kernel) ?_
        refine lv_goto (tgt := 32) hx_ hb_ dX5_isNext_28 (by decide) ?_
        exact hJ32 _ _ _ ls h_ hP_ hD_ hS_ (lv_sub hl_ [0] rfl)
    refine jx_icmp_ne (tgt := 16) hx_ hb_ h_ dX5_isNext_9 (by decide) (fun h_ => ?_) (fun h_ => ?_)
    · refine lv_iconst (v := jI 0) hx_ hb_ dX5_isNext_16 (by decide +kernel) ?_
      exact hJ17 _ _ _ ls h_ hP_ hD_ hS_ (lv_sub hl_ [0] rfl)
    · refine lv_iconst (v := jI 1) hx_ hb_ dX5_isNext_12 (by decide +kernel) ?_
      refine lv_goto (tgt := 17) hx_ hb_ dX5_isNext_13 (by decide) ?_
      exact hJ17 _ _ _ ls h_ hP_ hD_ hS_ (lv_sub hl_ [0] rfl)
  exact key_ _ (fun v9 at_9 H locs pc ls h9_ hz_ hdg_ hP_ hD_ hS_ => by cases h9_; exact jend_z hx_ hb_ hr_ hlocks_ hz_ hP_ hD_ hS_ hdg_)
def rm_X5_readsNote : Room := { frames := 2, cells := 0, slots := 0, locals := 45 }
set_option maxRecDepth 100000 in
set_option maxHeartbeats 8000000 in
theorem c_X5_readsNote (l : Launch) (D : va_G) (y : Nat → ClassId) (z : Nat → Nat) (a : Nat → Nat) (rc : Int) (is_ : Int → Int) (pd : Int → Int) (pn : Int) (ho : Int → Int) (eh : Int → Int) (mv : Int → Int) (at_ : Int) (tk : Int) (fs : Int) (lt : Int) (ea : Int) (stf : Int → Int) (kpf : Int → Int) (hsf : Int → Int) (slf : Int → Int)  (fu : Nat) (rr : Int) (q_at_ : Int) (q_tk : Int) (q_fs : Int) (q_lt : Int) (q_ea : Int) (h_ : f_X5_readsNote fu pd pn at_ tk fs lt ea = some (rr, q_at_, q_tk, q_fs, q_lt, q_ea)) : jCI l D y z yX5_readsNote wsX5_readsNote rm_X5_readsNote [.ref (a 0)] [(wMo y a rc is_ pd pn ho eh mv at_ tk fs lt ea), (wAr y (a 6) 205 stf), (wAr y (a 7) 205 kpf), (wAr y (a 8) 1230 hsf), (wAr y (a 9) 410 slf)] [(wMo y a rc is_ pd pn ho eh mv q_at_ q_tk q_fs q_lt q_ea), (wAr y (a 6) 205 stf), (wAr y (a 7) 205 kpf), (wAr y (a 8) 1230 hsf), (wAr y (a 9) 410 slf)] rr := by
  intro sz
  refine jmet (Qc := (fun A => va_Qi (fun v (_ : Unit) => v = jI rr) (jB D A [(wMo y a rc is_ pd pn ho eh mv q_at_ q_tk q_fs q_lt q_ea), (wAr y (a 6) 205 stf), (wAr y (a 7) 205 kpf), (wAr y (a 8) 1230 hsf), (wAr y (a 9) 410 slf)]) A)) (cc := cX5_readsNote) (maxL := 1) (ret := (some .boolean)) (own := RX5) (by decide) rfl (Nat.le_of_ble_eq_true rfl) rfl (fun p e s m R args below meth c A ls hR_ hargs_ hx_ hb_ hr_ hlocks_ hml_ hown_ hts_ hname_ hsz_ hP_ hD_ hA_ hM_ hl_ => ?_)
  have key_ : ∀ Q : State → Prop, (∀ (v9 : Int) (at_9 : Int) (tk9 : Int) (fs9 : Int) (lt9 : Int) (ea9 : Int) (H : Heap) (locs : List Loc) (pc : Nat) (ls : Array Slot), some (v9, at_9, tk9, fs9, lt9, ea9) = some (rr, q_at_, q_tk, q_fs, q_lt, q_ea) → (v9 = 0 ∨ v9 = 1) → decode cX5_readsNote pc = .ok (.ireturn, 1) → va_P D vwCl [(wMo y a rc is_ pd pn ho eh mv at_9 tk9 fs9 lt9 ea9), (wAr y (a 6) 205 stf), (wAr y (a 7) 205 kpf), (wAr y (a 8) 1230 hsf), (wAr y (a 9) 410 slf)].flatten H → va_D A [(wMo y a rc is_ pd pn ho eh mv at_9 tk9 fs9 lt9 ea9), (wAr y (a 6) 205 stf), (wAr y (a 7) 205 kpf), (wAr y (a 8) 1230 hsf), (wAr y (a 9) 410 slf)].flatten → va_S A s.heap H locs → W p l e R s m args below meth c H locs 0 0 Q (F0 m pc ls [.int (jI v9)])) → W p l e R s m args below meth c s.heap [] 0 0 Q (F0 m 0 ls []) := by
    intro Q hE_
    have hS_ : va_S A s.heap s.heap [] := va_S.rf
    have hl_ : lv_has ls 1 [(0, .ref (a 0))] := hl_
    have hin_ : ∀ w ∈ u_ws RX5 TX5 16, w ∈ wsX5_readsNote := by decide +kernel
    unfold f_X5_readsNote at h_
    refine lv_aload_n hx_ hb_ dX5_readsNote_0 rfl (lv_at hl_ 0 rfl) ?_
    refine lv_aload_n hx_ hb_ dX5_readsNote_1 rfl (lv_at hl_ 0 rfl) ?_
    refine lv_bipush (v := jI 11) hx_ hb_ dX5_readsNote_2 (by decide +kernel) ?_
    obtain ⟨v1, at__m2, hv1, h_⟩ := jb2_i h_
    refine jx_cvi (wr := []) (cw := [(wMo y a rc is_ pd pn ho eh mv at_ tk fs lt ea), (wAr y (a 6) 205 stf), (wAr y (a 7) 205 kpf), (wAr y (a 8) 1230 hsf), (wAr y (a 9) 410 slf)]) (cw1 := [(wMo y a rc is_ pd pn ho eh mv at__m2 tk fs lt ea), (wAr y (a 6) 205 stf), (wAr y (a 7) 205 kpf), (wAr y (a 8) 1230 hsf), (wAr y (a 9) 410 slf)]) (cs1 := [(wMo y a rc is_ pd pn ho eh mv at__m2 tk fs lt ea), (wAr y (a 6) 205 stf), (wAr y (a 7) 205 kpf), (wAr y (a 8) 1230 hsf), (wAr y (a 9) 410 slf)]) (As := [.int (jI 11)]) (rest := [.ref (a 0)]) ⟨hx_, hb_, hml_, hown_, hts_⟩ hM_ hP_ hD_ hS_ hA_ (List.Perm.refl _) (List.Perm.refl _) (c_X5_takeNumber l D y z a rc is_ pd pn ho eh mv at_ tk fs lt ea stf kpf hsf slf 11 fu v1 at__m2 hv1) 1 gX5_readsNote_X5_takeNumber rfl ⟨rfl, rfl⟩ (by decide +kernel) ⟨by rw [hR_]; exact Nat.le_of_ble_eq_true rfl, by rw [hR_]; exact Nat.le_of_ble_eq_true rfl⟩ 0 5 rfl rfl rfl rfl rfl hl_.1 (Nat.le_of_ble_eq_true rfl) dX5_readsNote_4 ⟨Nat.zero_le _, Nat.zero_le _⟩ (fun H locs hP_ hD_ hS_ => ?_)
    refine va_put (D := D) (ci := 5) (v := .int (jI v1)) (ty := .int) (C := RX5) (T := TX5) (N := 16) hx_ hb_ hts_ hin_ tyX5 tyX5_ok nmX5 hown_ hM_.1 hP_ hD_ hS_ 0 rfl rfl 12 (by decide) (hts_ (.fieldLink RX5 155 "MusicHolesModel" "track" "I") (by decide +kernel)) (fun _ h9_ => h9_) rfl (by decide +kernel) rfl rfl (Nat.le_of_ble_eq_true rfl) dX5_readsNote_7 (fun H locs hP_ hD_ hS_ => ?_)
    have hP_ : va_P D vwCl [(wMo y a rc is_ pd pn ho eh mv at__m2 v1 fs lt ea), (wAr y (a 6) 205 stf), (wAr y (a 7) 205 kpf), (wAr y (a 8) 1230 hsf), (wAr y (a 9) 410 slf)].flatten H := hP_
    have hD_ : va_D A [(wMo y a rc is_ pd pn ho eh mv at__m2 v1 fs lt ea), (wAr y (a 6) 205 stf), (wAr y (a 7) 205 kpf), (wAr y (a 8) 1230 hsf), (wAr y (a 9) 410 slf)].flatten := hD_
    refine lv_aload_n hx_ hb_ dX5_readsNote_10 rfl (lv_at hl_ 0 rfl) ?_
    refine lv_aload_n hx_ hb_ dX5_readsNote_11 rfl (lv_at hl_ 0 rfl) ?_
    refine va_get (D := D) (ci := 5) (v := .int (jI v1)) (C := RX5) (T := TX5) (N := 16) hx_ hb_ hts_ hin_ hown_ hM_.1 hP_ 0 rfl rfl 12 (by decide) (hts_ (.fieldLink RX5 155 "MusicHolesModel" "track" "I") (by decide +kernel)) (fun _ h9_ => h9_) rfl dX5_readsNote_12 ?_
    have hJ37 : ∀ (at__m3 : Int) (tk_m4 : Int) (fs_m5 : Int) (lt_m6 : Int) (ea_m7 : Int) (v8 : Int) (H : Heap) (locs : List Loc) (ls : Array Slot), f_X5_readsNote_J37 fu pd pn at__m3 tk_m4 fs_m5 lt_m6 ea_m7 v8 = some (rr, q_at_, q_tk, q_fs, q_lt, q_ea) → va_P D vwCl [(wMo y a rc is_ pd pn ho eh mv at__m3 tk_m4 fs_m5 lt_m6 ea_m7), (wAr y (a 6) 205 stf), (wAr y (a 7) 205 kpf), (wAr y (a 8) 1230 hsf), (wAr y (a 9) 410 slf)].flatten H → va_D A [(wMo y a rc is_ pd pn ho eh mv at__m3 tk_m4 fs_m5 lt_m6 ea_m7), (wAr y (a 6) 205 stf), (wAr y (a 7) 205 kpf), (wAr y (a 8) 1230 hsf), (wAr y (a 9) 410 slf)].flatten → va_S A s.heap H locs → lv_has ls 1 [(0, .ref (a 0))] → W p l e R s m args below meth c H locs 0 0 Q (F0 m 37 ls [.int (jI v8), .ref (a 0)]) := by
      intro at__m3 tk_m4 fs_m5 lt_m6 ea_m7 v8 H locs ls h_ hP_ hD_ hS_ hl_
      unfold f_X5_readsNote_J37 at h_
      refine va_put (D := D) (ci := 5) (v := .int (jI v8)) (ty := .int) (C := RX5) (T := TX5) (N := 16) hx_ hb_ hts_ hin_ tyX5 tyX5_ok nmX5 hown_ hM_.1 hP_ hD_ hS_ 0 rfl rfl 13 (by decide) (hts_ (.fieldLink RX5 158 "MusicHolesModel" "first" "I") (by decide +kernel)) (fun _ h9_ => h9_) rfl (by decide +kernel) rfl rfl (Nat.le_of_ble_eq_true rfl) dX5_readsNote_37 (fun H locs hP_ hD_ hS_ => ?_)
      have hP_ : va_P D vwCl [(wMo y a rc is_ pd pn ho eh mv at__m3 tk_m4 v8 lt_m6 ea_m7), (wAr y (a 6) 205 stf), (wAr y (a 7) 205 kpf), (wAr y (a 8) 1230 hsf), (wAr y (a 9) 410 slf)].flatten H := hP_
      have hD_ : va_D A [(wMo y a rc is_ pd pn ho eh mv at__m3 tk_m4 v8 lt_m6 ea_m7), (wAr y (a 6) 205 stf), (wAr y (a 7) 205 kpf), (wAr y (a 8) 1230 hsf), (wAr y (a 9) 410 slf)].flatten := hD_
      refine lv_aload_n hx_ hb_ dX5_readsNote_40 rfl (lv_at hl_ 0 rfl) ?_
      refine lv_aload_n hx_ hb_ dX5_readsNote_41 rfl (lv_at hl_ 0 rfl) ?_
      refine va_get (D := D) (ci := 5) (v := .int (jI v8)) (C := RX5) (T := TX5) (N := 16) hx_ hb_ hts_ hin_ hown_ hM_.1 hP_ 0 rfl rfl 13 (by decide) (hts_ (.fieldLink RX5 158 "MusicHolesModel" "first" "I") (by decide +kernel)) (fun _ h9_ => h9_) rfl dX5_readsNote_42 ?_
      have hJ67 : ∀ (at__m9 : Int) (tk_m10 : Int) (fs_m11 : Int) (lt_m12 : Int) (ea_m13 : Int) (v14 : Int) (H : Heap) (locs : List Loc) (ls : Array Slot), f_X5_readsNote_J67 fu pd pn at__m9 tk_m10 fs_m11 lt_m12 ea_m13 v14 = some (rr, q_at_, q_tk, q_fs, q_lt, q_ea) → va_P D vwCl [(wMo y a rc is_ pd pn ho eh mv at__m9 tk_m10 fs_m11 lt_m12 ea_m13), (wAr y (a 6) 205 stf), (wAr y (a 7) 205 kpf), (wAr y (a 8) 1230 hsf), (wAr y (a 9) 410 slf)].flatten H → va_D A [(wMo y a rc is_ pd pn ho eh mv at__m9 tk_m10 fs_m11 lt_m12 ea_m13), (wAr y (a 6) 205 stf), (wAr y (a 7) 205 kpf), (wAr y (a 8) 1230 hsf), (wAr y (a 9) 410 slf)].flatten → va_S A s.heap H locs → lv_has ls 1 [(0, .ref (a 0))] → W p l e R s m args below meth c H locs 0 0 Q (F0 m 67 ls [.int (jI v14), .ref (a 0)]) := by
        intro at__m9 tk_m10 fs_m11 lt_m12 ea_m13 v14 H locs ls h_ hP_ hD_ hS_ hl_
        unfold f_X5_readsNote_J67 at h_
        refine va_put (D := D) (ci := 5) (v := .int (jI v14)) (ty := .int) (C := RX5) (T := TX5) (N := 16) hx_ hb_ hts_ hin_ tyX5 tyX5_ok nmX5 hown_ hM_.1 hP_ hD_ hS_ 0 rfl rfl 14 (by decide) (hts_ (.fieldLink RX5 161 "MusicHolesModel" "last" "I") (by decide +kernel)) (fun _ h9_ => h9_) rfl (by decide +kernel) rfl rfl (Nat.le_of_ble_eq_true rfl) dX5_readsNote_67 (fun H locs hP_ hD_ hS_ => ?_)
        have hP_ : va_P D vwCl [(wMo y a rc is_ pd pn ho eh mv at__m9 tk_m10 fs_m11 v14 ea_m13), (wAr y (a 6) 205 stf), (wAr y (a 7) 205 kpf), (wAr y (a 8) 1230 hsf), (wAr y (a 9) 410 slf)].flatten H := hP_
        have hD_ : va_D A [(wMo y a rc is_ pd pn ho eh mv at__m9 tk_m10 fs_m11 v14 ea_m13), (wAr y (a 6) 205 stf), (wAr y (a 7) 205 kpf), (wAr y (a 8) 1230 hsf), (wAr y (a 9) 410 slf)].flatten := hD_
        refine lv_aload_n hx_ hb_ dX5_readsNote_70 rfl (lv_at hl_ 0 rfl) ?_
        refine lv_aload_n hx_ hb_ dX5_readsNote_71 rfl (lv_at hl_ 0 rfl) ?_
        refine va_get (D := D) (ci := 5) (v := .int (jI v14)) (C := RX5) (T := TX5) (N := 16) hx_ hb_ hts_ hin_ hown_ hM_.1 hP_ 0 rfl rfl 14 (by decide) (hts_ (.fieldLink RX5 161 "MusicHolesModel" "last" "I") (by decide +kernel)) (fun _ h9_ => h9_) rfl dX5_readsNote_72 ?_
        have hJ92 : ∀ (at__m15 : Int) (tk_m16 : Int) (fs_m17 : Int) (lt_m18 : Int) (ea_m19 : Int) (v20 : Int) (H : Heap) (locs : List Loc) (ls : Array Slot), f_X5_readsNote_J92 fu at__m15 tk_m16 fs_m17 lt_m18 ea_m19 v20 = some (rr, q_at_, q_tk, q_fs, q_lt, q_ea) → va_P D vwCl [(wMo y a rc is_ pd pn ho eh mv at__m15 tk_m16 fs_m17 lt_m18 ea_m19), (wAr y (a 6) 205 stf), (wAr y (a 7) 205 kpf), (wAr y (a 8) 1230 hsf), (wAr y (a 9) 410 slf)].flatten H → va_D A [(wMo y a rc is_ pd pn ho eh mv at__m15 tk_m16 fs_m17 lt_m18 ea_m19), (wAr y (a 6) 205 stf), (wAr y (a 7) 205 kpf), (wAr y (a 8) 1230 hsf), (wAr y (a 9) 410 slf)].flatten → va_S A s.heap H locs → lv_has ls 1 [(0, .ref (a 0))] → W p l e R s m args below meth c H locs 0 0 Q (F0 m 92 ls [.int (jI v20), .ref (a 0)]) := by
          intro at__m15 tk_m16 fs_m17 lt_m18 ea_m19 v20 H locs ls h_ hP_ hD_ hS_ hl_
          unfold f_X5_readsNote_J92 at h_
          refine va_put (D := D) (ci := 5) (v := .int (jI v20)) (ty := .int) (C := RX5) (T := TX5) (N := 16) hx_ hb_ hts_ hin_ tyX5 tyX5_ok nmX5 hown_ hM_.1 hP_ hD_ hS_ 0 rfl rfl 15 (by decide) (hts_ (.fieldLink RX5 164 "MusicHolesModel" "hasAccent" "I") (by decide +kernel)) (fun _ h9_ => h9_) rfl (by decide +kernel) rfl rfl (Nat.le_of_ble_eq_true rfl) dX5_readsNote_92 (fun H locs hP_ hD_ hS_ => ?_)
          have hP_ : va_P D vwCl [(wMo y a rc is_ pd pn ho eh mv at__m15 tk_m16 fs_m17 lt_m18 v20), (wAr y (a 6) 205 stf), (wAr y (a 7) 205 kpf), (wAr y (a 8) 1230 hsf), (wAr y (a 9) 410 slf)].flatten H := hP_
          have hD_ : va_D A [(wMo y a rc is_ pd pn ho eh mv at__m15 tk_m16 fs_m17 lt_m18 v20), (wAr y (a 6) 205 stf), (wAr y (a 7) 205 kpf), (wAr y (a 8) 1230 hsf), (wAr y (a 9) 410 slf)].flatten := hD_
          refine lv_aload_n hx_ hb_ dX5_readsNote_95 rfl (lv_at hl_ 0 rfl) ?_
          refine va_get (D := D) (ci := 5) (v := .int (jI lt_m18)) (C := RX5) (T := TX5) (N := 16) hx_ hb_ hts_ hin_ hown_ hM_.1 hP_ 0 rfl rfl 14 (by decide) (hts_ (.fieldLink RX5 161 "MusicHolesModel" "last" "I") (by decide +kernel)) (fun _ h9_ => h9_) rfl dX5_readsNote_96 ?_
          refine jx_if_lt (tgt := 106) hx_ hb_ h_ dX5_readsNote_99 (by decide) (fun h_ => ?_) (fun h_ => ?_)
          · refine lv_iconst (v := jI 0) hx_ hb_ dX5_readsNote_106 (by decide +kernel) ?_
            obtain ⟨hz_, h_⟩ := jbo_i h_
            exact hE_ _ _ _ _ _ _ _ _ _ _ h_ hz_ dX5_readsNote_107 hP_ hD_ hS_
          · refine lv_iconst (v := jI 1) hx_ hb_ dX5_readsNote_102 (by decide +kernel) ?_
            refine lv_goto (tgt := 107) hx_ hb_ dX5_readsNote_103 (by decide) ?_
            obtain ⟨hz_, h_⟩ := jbo_i h_
            exact hE_ _ _ _ _ _ _ _ _ _ _ h_ hz_ dX5_readsNote_107 hP_ hD_ hS_
        have hJ91 : ∀ (at__m21 : Int) (tk_m22 : Int) (fs_m23 : Int) (lt_m24 : Int) (ea_m25 : Int) (H : Heap) (locs : List Loc) (ls : Array Slot), f_X5_readsNote_J91 fu at__m21 tk_m22 fs_m23 lt_m24 ea_m25 = some (rr, q_at_, q_tk, q_fs, q_lt, q_ea) → va_P D vwCl [(wMo y a rc is_ pd pn ho eh mv at__m21 tk_m22 fs_m23 lt_m24 ea_m25), (wAr y (a 6) 205 stf), (wAr y (a 7) 205 kpf), (wAr y (a 8) 1230 hsf), (wAr y (a 9) 410 slf)].flatten H → va_D A [(wMo y a rc is_ pd pn ho eh mv at__m21 tk_m22 fs_m23 lt_m24 ea_m25), (wAr y (a 6) 205 stf), (wAr y (a 7) 205 kpf), (wAr y (a 8) 1230 hsf), (wAr y (a 9) 410 slf)].flatten → va_S A s.heap H locs → lv_has ls 1 [(0, .ref (a 0))] → W p l e R s m args below meth c H locs 0 0 Q (F0 m 91 ls [.ref (a 0)]) := by
          intro at__m21 tk_m22 fs_m23 lt_m24 ea_m25 H locs ls h_ hP_ hD_ hS_ hl_
          unfold f_X5_readsNote_J91 at h_
          refine lv_iconst (v := jI 0) hx_ hb_ dX5_readsNote_91 (by decide +kernel) ?_
          exact hJ92 _ _ _ _ _ _ _ _ ls h_ hP_ hD_ hS_ (lv_sub hl_ [0] rfl)
        refine jx_if_lt (tgt := 91) hx_ hb_ h_ dX5_readsNote_75 (by decide) (fun h_ => ?_) (fun h_ => ?_)
        · exact hJ91 _ _ _ _ _ _ _ ls h_ hP_ hD_ hS_ (lv_sub hl_ [0] rfl)
        · refine lv_aload_n hx_ hb_ dX5_readsNote_78 rfl (lv_at hl_ 0 rfl) ?_
          refine lv_bipush (v := jI 33) hx_ hb_ dX5_readsNote_79 (by decide +kernel) ?_
          obtain ⟨v26, at__m27, hv26, h_⟩ := jb2_i h_
          refine jx_cvi (wr := []) (cw := [(wMo y a rc is_ pd pn ho eh mv at__m9 tk_m10 fs_m11 v14 ea_m13), (wAr y (a 6) 205 stf), (wAr y (a 7) 205 kpf), (wAr y (a 8) 1230 hsf), (wAr y (a 9) 410 slf)]) (cw1 := [(wMo y a rc is_ pd pn ho eh mv at__m27 tk_m10 fs_m11 v14 ea_m13), (wAr y (a 6) 205 stf), (wAr y (a 7) 205 kpf), (wAr y (a 8) 1230 hsf), (wAr y (a 9) 410 slf)]) (cs1 := [(wMo y a rc is_ pd pn ho eh mv at__m27 tk_m10 fs_m11 v14 ea_m13), (wAr y (a 6) 205 stf), (wAr y (a 7) 205 kpf), (wAr y (a 8) 1230 hsf), (wAr y (a 9) 410 slf)]) (As := [.int (jI 33)]) (rest := [.ref (a 0)]) ⟨hx_, hb_, hml_, hown_, hts_⟩ hM_ hP_ hD_ hS_ hA_ (List.Perm.refl _) (List.Perm.refl _) (c_X5_isNext l D y z a rc is_ pd pn ho eh mv at__m9 tk_m10 fs_m11 v14 ea_m13 stf kpf hsf slf 33 fu v26 at__m27 hv26) 1 gX5_readsNote_X5_isNext rfl ⟨rfl, rfl⟩ (by decide +kernel) ⟨by rw [hR_]; exact Nat.le_of_ble_eq_true rfl, by rw [hR_]; exact Nat.le_of_ble_eq_true rfl⟩ 0 5 rfl rfl rfl rfl rfl hl_.1 (Nat.le_of_ble_eq_true rfl) dX5_readsNote_81 ⟨Nat.zero_le _, Nat.zero_le _⟩ (fun H locs hP_ hD_ hS_ => ?_)
          refine jx_if_eq (tgt := 91) hx_ hb_ h_ dX5_readsNote_84 (by decide) (fun h_ => ?_) (fun h_ => ?_)
          · exact hJ91 _ _ _ _ _ _ _ ls h_ hP_ hD_ hS_ (lv_sub hl_ [0] rfl)
          · refine lv_iconst (v := jI 1) hx_ hb_ dX5_readsNote_87 (by decide +kernel) ?_
            refine lv_goto (tgt := 92) hx_ hb_ dX5_readsNote_88 (by decide) ?_
            exact hJ92 _ _ _ _ _ _ _ _ ls h_ hP_ hD_ hS_ (lv_sub hl_ [0] rfl)
      have hJ66 : ∀ (at__m28 : Int) (tk_m29 : Int) (fs_m30 : Int) (lt_m31 : Int) (ea_m32 : Int) (H : Heap) (locs : List Loc) (ls : Array Slot), f_X5_readsNote_J66 fu pd pn at__m28 tk_m29 fs_m30 lt_m31 ea_m32 = some (rr, q_at_, q_tk, q_fs, q_lt, q_ea) → va_P D vwCl [(wMo y a rc is_ pd pn ho eh mv at__m28 tk_m29 fs_m30 lt_m31 ea_m32), (wAr y (a 6) 205 stf), (wAr y (a 7) 205 kpf), (wAr y (a 8) 1230 hsf), (wAr y (a 9) 410 slf)].flatten H → va_D A [(wMo y a rc is_ pd pn ho eh mv at__m28 tk_m29 fs_m30 lt_m31 ea_m32), (wAr y (a 6) 205 stf), (wAr y (a 7) 205 kpf), (wAr y (a 8) 1230 hsf), (wAr y (a 9) 410 slf)].flatten → va_S A s.heap H locs → lv_has ls 1 [(0, .ref (a 0))] → W p l e R s m args below meth c H locs 0 0 Q (F0 m 66 ls [.ref (a 0)]) := by
        intro at__m28 tk_m29 fs_m30 lt_m31 ea_m32 H locs ls h_ hP_ hD_ hS_ hl_
        unfold f_X5_readsNote_J66 at h_
        refine lv_iconst (v := jI (-1)) hx_ hb_ dX5_readsNote_66 (by decide +kernel) ?_
        exact hJ67 _ _ _ _ _ _ _ _ ls h_ hP_ hD_ hS_ (lv_sub hl_ [0] rfl)
      refine jx_if_lt (tgt := 66) hx_ hb_ h_ dX5_readsNote_45 (by decide) (fun h_ => ?_) (fun h_ => ?_)
      · exact hJ66 _ _ _ _ _ _ _ ls h_ hP_ hD_ hS_ (lv_sub hl_ [0] rfl)
      · refine lv_aload_n hx_ hb_ dX5_readsNote_48 rfl (lv_at hl_ 0 rfl) ?_
        refine lv_bipush (v := jI 45) hx_ hb_ dX5_readsNote_49 (by decide +kernel) ?_
        obtain ⟨v33, at__m34, hv33, h_⟩ := jb2_i h_
        refine jx_cvi (wr := []) (cw := [(wMo y a rc is_ pd pn ho eh mv at__m3 tk_m4 v8 lt_m6 ea_m7), (wAr y (a 6) 205 stf), (wAr y (a 7) 205 kpf), (wAr y (a 8) 1230 hsf), (wAr y (a 9) 410 slf)]) (cw1 := [(wMo y a rc is_ pd pn ho eh mv at__m34 tk_m4 v8 lt_m6 ea_m7), (wAr y (a 6) 205 stf), (wAr y (a 7) 205 kpf), (wAr y (a 8) 1230 hsf), (wAr y (a 9) 410 slf)]) (cs1 := [(wMo y a rc is_ pd pn ho eh mv at__m34 tk_m4 v8 lt_m6 ea_m7), (wAr y (a 6) 205 stf), (wAr y (a 7) 205 kpf), (wAr y (a 8) 1230 hsf), (wAr y (a 9) 410 slf)]) (As := [.int (jI 45)]) (rest := [.ref (a 0)]) ⟨hx_, hb_, hml_, hown_, hts_⟩ hM_ hP_ hD_ hS_ hA_ (List.Perm.refl _) (List.Perm.refl _) (c_X5_isNext l D y z a rc is_ pd pn ho eh mv at__m3 tk_m4 v8 lt_m6 ea_m7 stf kpf hsf slf 45 fu v33 at__m34 hv33) 1 gX5_readsNote_X5_isNext rfl ⟨rfl, rfl⟩ (by decide +kernel) ⟨by rw [hR_]; exact Nat.le_of_ble_eq_true rfl, by rw [hR_]; exact Nat.le_of_ble_eq_true rfl⟩ 0 5 rfl rfl rfl rfl rfl hl_.1 (Nat.le_of_ble_eq_true rfl) dX5_readsNote_51 ⟨Nat.zero_le _, Nat.zero_le _⟩ (fun H locs hP_ hD_ hS_ => ?_)
        refine jx_if_eq (tgt := 66) hx_ hb_ h_ dX5_readsNote_54 (by decide) (fun h_ => ?_) (fun h_ => ?_)
        · exact hJ66 _ _ _ _ _ _ _ ls h_ hP_ hD_ hS_ (lv_sub hl_ [0] rfl)
        · refine lv_aload_n hx_ hb_ dX5_readsNote_57 rfl (lv_at hl_ 0 rfl) ?_
          refine lv_bipush (v := jI 99) hx_ hb_ dX5_readsNote_58 (by decide +kernel) ?_
          obtain ⟨v35, at__m36, hv35, h_⟩ := jb2_i h_
          refine jx_cvi (wr := []) (cw := [(wMo y a rc is_ pd pn ho eh mv at__m34 tk_m4 v8 lt_m6 ea_m7), (wAr y (a 6) 205 stf), (wAr y (a 7) 205 kpf), (wAr y (a 8) 1230 hsf), (wAr y (a 9) 410 slf)]) (cw1 := [(wMo y a rc is_ pd pn ho eh mv at__m36 tk_m4 v8 lt_m6 ea_m7), (wAr y (a 6) 205 stf), (wAr y (a 7) 205 kpf), (wAr y (a 8) 1230 hsf), (wAr y (a 9) 410 slf)]) (cs1 := [(wMo y a rc is_ pd pn ho eh mv at__m36 tk_m4 v8 lt_m6 ea_m7), (wAr y (a 6) 205 stf), (wAr y (a 7) 205 kpf), (wAr y (a 8) 1230 hsf), (wAr y (a 9) 410 slf)]) (As := [.int (jI 99)]) (rest := [.ref (a 0)]) ⟨hx_, hb_, hml_, hown_, hts_⟩ hM_ hP_ hD_ hS_ hA_ (List.Perm.refl _) (List.Perm.refl _) (c_X5_takeNumber l D y z a rc is_ pd pn ho eh mv at__m34 tk_m4 v8 lt_m6 ea_m7 stf kpf hsf slf 99 fu v35 at__m36 hv35) 1 gX5_readsNote_X5_takeNumber rfl ⟨rfl, rfl⟩ (by decide +kernel) ⟨by rw [hR_]; exact Nat.le_of_ble_eq_true rfl, by rw [hR_]; exact Nat.le_of_ble_eq_true rfl⟩ 0 5 rfl rfl rfl rfl rfl hl_.1 (Nat.le_of_ble_eq_true rfl) dX5_readsNote_60 ⟨Nat.zero_le _, Nat.zero_le _⟩ (fun H locs hP_ hD_ hS_ => ?_)
          refine lv_goto (tgt := 67) hx_ hb_ dX5_readsNote_63 (by decide) ?_
          exact hJ67 _ _ _ _ _ _ _ _ ls h_ hP_ hD_ hS_ (lv_sub hl_ [0] rfl)
    have hJ36 : ∀ (at__m37 : Int) (tk_m38 : Int) (fs_m39 : Int) (lt_m40 : Int) (ea_m41 : Int) (H : Heap) (locs : List Loc) (ls : Array Slot), f_X5_readsNote_J36 fu pd pn at__m37 tk_m38 fs_m39 lt_m40 ea_m41 = some (rr, q_at_, q_tk, q_fs, q_lt, q_ea) → va_P D vwCl [(wMo y a rc is_ pd pn ho eh mv at__m37 tk_m38 fs_m39 lt_m40 ea_m41), (wAr y (a 6) 205 stf), (wAr y (a 7) 205 kpf), (wAr y (a 8) 1230 hsf), (wAr y (a 9) 410 slf)].flatten H → va_D A [(wMo y a rc is_ pd pn ho eh mv at__m37 tk_m38 fs_m39 lt_m40 ea_m41), (wAr y (a 6) 205 stf), (wAr y (a 7) 205 kpf), (wAr y (a 8) 1230 hsf), (wAr y (a 9) 410 slf)].flatten → va_S A s.heap H locs → lv_has ls 1 [(0, .ref (a 0))] → W p l e R s m args below meth c H locs 0 0 Q (F0 m 36 ls [.ref (a 0)]) := by
      intro at__m37 tk_m38 fs_m39 lt_m40 ea_m41 H locs ls h_ hP_ hD_ hS_ hl_
      unfold f_X5_readsNote_J36 at h_
      refine lv_iconst (v := jI (-1)) hx_ hb_ dX5_readsNote_36 (by decide +kernel) ?_
      exact hJ37 _ _ _ _ _ _ _ _ ls h_ hP_ hD_ hS_ (lv_sub hl_ [0] rfl)
    refine jx_if_lt (tgt := 36) hx_ hb_ h_ dX5_readsNote_15 (by decide) (fun h_ => ?_) (fun h_ => ?_)
    · exact hJ36 _ _ _ _ _ _ _ ls h_ hP_ hD_ hS_ (lv_sub hl_ [0] rfl)
    · refine lv_aload_n hx_ hb_ dX5_readsNote_18 rfl (lv_at hl_ 0 rfl) ?_
      refine lv_bipush (v := jI 58) hx_ hb_ dX5_readsNote_19 (by decide +kernel) ?_
      obtain ⟨v42, at__m43, hv42, h_⟩ := jb2_i h_
      refine jx_cvi (wr := []) (cw := [(wMo y a rc is_ pd pn ho eh mv at__m2 v1 fs lt ea), (wAr y (a 6) 205 stf), (wAr y (a 7) 205 kpf), (wAr y (a 8) 1230 hsf), (wAr y (a 9) 410 slf)]) (cw1 := [(wMo y a rc is_ pd pn ho eh mv at__m43 v1 fs lt ea), (wAr y (a 6) 205 stf), (wAr y (a 7) 205 kpf), (wAr y (a 8) 1230 hsf), (wAr y (a 9) 410 slf)]) (cs1 := [(wMo y a rc is_ pd pn ho eh mv at__m43 v1 fs lt ea), (wAr y (a 6) 205 stf), (wAr y (a 7) 205 kpf), (wAr y (a 8) 1230 hsf), (wAr y (a 9) 410 slf)]) (As := [.int (jI 58)]) (rest := [.ref (a 0)]) ⟨hx_, hb_, hml_, hown_, hts_⟩ hM_ hP_ hD_ hS_ hA_ (List.Perm.refl _) (List.Perm.refl _) (c_X5_isNext l D y z a rc is_ pd pn ho eh mv at__m2 v1 fs lt ea stf kpf hsf slf 58 fu v42 at__m43 hv42) 1 gX5_readsNote_X5_isNext rfl ⟨rfl, rfl⟩ (by decide +kernel) ⟨by rw [hR_]; exact Nat.le_of_ble_eq_true rfl, by rw [hR_]; exact Nat.le_of_ble_eq_true rfl⟩ 0 5 rfl rfl rfl rfl rfl hl_.1 (Nat.le_of_ble_eq_true rfl) dX5_readsNote_21 ⟨Nat.zero_le _, Nat.zero_le _⟩ (fun H locs hP_ hD_ hS_ => ?_)
      refine jx_if_eq (tgt := 36) hx_ hb_ h_ dX5_readsNote_24 (by decide) (fun h_ => ?_) (fun h_ => ?_)
      · exact hJ36 _ _ _ _ _ _ _ ls h_ hP_ hD_ hS_ (lv_sub hl_ [0] rfl)
      · refine lv_aload_n hx_ hb_ dX5_readsNote_27 rfl (lv_at hl_ 0 rfl) ?_
        refine lv_bipush (v := jI 99) hx_ hb_ dX5_readsNote_28 (by decide +kernel) ?_
        obtain ⟨v44, at__m45, hv44, h_⟩ := jb2_i h_
        refine jx_cvi (wr := []) (cw := [(wMo y a rc is_ pd pn ho eh mv at__m43 v1 fs lt ea), (wAr y (a 6) 205 stf), (wAr y (a 7) 205 kpf), (wAr y (a 8) 1230 hsf), (wAr y (a 9) 410 slf)]) (cw1 := [(wMo y a rc is_ pd pn ho eh mv at__m45 v1 fs lt ea), (wAr y (a 6) 205 stf), (wAr y (a 7) 205 kpf), (wAr y (a 8) 1230 hsf), (wAr y (a 9) 410 slf)]) (cs1 := [(wMo y a rc is_ pd pn ho eh mv at__m45 v1 fs lt ea), (wAr y (a 6) 205 stf), (wAr y (a 7) 205 kpf), (wAr y (a 8) 1230 hsf), (wAr y (a 9) 410 slf)]) (As := [.int (jI 99)]) (rest := [.ref (a 0)]) ⟨hx_, hb_, hml_, hown_, hts_⟩ hM_ hP_ hD_ hS_ hA_ (List.Perm.refl _) (List.Perm.refl _) (c_X5_takeNumber l D y z a rc is_ pd pn ho eh mv at__m43 v1 fs lt ea stf kpf hsf slf 99 fu v44 at__m45 hv44) 1 gX5_readsNote_X5_takeNumber rfl ⟨rfl, rfl⟩ (by decide +kernel) ⟨by rw [hR_]; exact Nat.le_of_ble_eq_true rfl, by rw [hR_]; exact Nat.le_of_ble_eq_true rfl⟩ 0 5 rfl rfl rfl rfl rfl hl_.1 (Nat.le_of_ble_eq_true rfl) dX5_readsNote_30 ⟨Nat.zero_le _, Nat.zero_le _⟩ (fun H locs hP_ hD_ hS_ => ?_)
        refine lv_goto (tgt := 37) hx_ hb_ dX5_readsNote_33 (by decide) ?_
        exact hJ37 _ _ _ _ _ _ _ _ ls h_ hP_ hD_ hS_ (lv_sub hl_ [0] rfl)
  exact key_ _ (fun v9 at_9 tk9 fs9 lt9 ea9 H locs pc ls h9_ hz_ hdg_ hP_ hD_ hS_ => by cases h9_; exact jend_z hx_ hb_ hr_ hlocks_ hz_ hP_ hD_ hS_ hdg_)
def rm_X5_wrongInPad : Room := { frames := 3, cells := 0, slots := 0, locals := 72 }
set_option maxRecDepth 100000 in
set_option maxHeartbeats 8000000 in
theorem c_X5_wrongInPad (l : Launch) (D : va_G) (y : Nat → ClassId) (z : Nat → Nat) (a : Nat → Nat) (rc : Int) (is_ : Int → Int) (pd : Int → Int) (pn : Int) (ho : Int → Int) (eh : Int → Int) (mv : Int → Int) (at_ : Int) (tk : Int) (fs : Int) (lt : Int) (ea : Int) (stf : Int → Int) (kpf : Int → Int) (hsf : Int → Int) (slf : Int → Int) (x1 : Int) (fu : Nat) (rr : Int) (q_at_ : Int) (q_tk : Int) (q_fs : Int) (q_lt : Int) (q_ea : Int) (q_stf : Int → Int) (h_ : f_X5_wrongInPad fu pd pn at_ tk fs lt ea stf x1 = some (rr, q_at_, q_tk, q_fs, q_lt, q_ea, q_stf)) : jCI l D y z yX5_wrongInPad wsX5_wrongInPad rm_X5_wrongInPad [.ref (a 0), .int (jI x1)] [(wMo y a rc is_ pd pn ho eh mv at_ tk fs lt ea), (wAr y (a 6) 205 stf), (wAr y (a 7) 205 kpf), (wAr y (a 8) 1230 hsf), (wAr y (a 9) 410 slf)] [(wMo y a rc is_ pd pn ho eh mv q_at_ q_tk q_fs q_lt q_ea), (wAr y (a 6) 205 q_stf), (wAr y (a 7) 205 kpf), (wAr y (a 8) 1230 hsf), (wAr y (a 9) 410 slf)] rr := by
  intro sz
  refine jmet (Qc := (fun A => va_Qi (fun v (_ : Unit) => v = jI rr) (jB D A [(wMo y a rc is_ pd pn ho eh mv q_at_ q_tk q_fs q_lt q_ea), (wAr y (a 6) 205 q_stf), (wAr y (a 7) 205 kpf), (wAr y (a 8) 1230 hsf), (wAr y (a 9) 410 slf)]) A)) (cc := cX5_wrongInPad) (maxL := 4) (ret := (some .int)) (own := RX5) (by decide) rfl (Nat.le_of_ble_eq_true rfl) rfl (fun p e s m R args below meth c A ls hR_ hargs_ hx_ hb_ hr_ hlocks_ hml_ hown_ hts_ hname_ hsz_ hP_ hD_ hA_ hM_ hl_ => ?_)
  have key_ : ∀ Q : State → Prop, (∀ (v9 : Int) (at_9 : Int) (tk9 : Int) (fs9 : Int) (lt9 : Int) (ea9 : Int) (stf9 : Int → Int) (H : Heap) (locs : List Loc) (pc : Nat) (ls : Array Slot), some (v9, at_9, tk9, fs9, lt9, ea9, stf9) = some (rr, q_at_, q_tk, q_fs, q_lt, q_ea, q_stf) → decode cX5_wrongInPad pc = .ok (.ireturn, 1) → va_P D vwCl [(wMo y a rc is_ pd pn ho eh mv at_9 tk9 fs9 lt9 ea9), (wAr y (a 6) 205 stf9), (wAr y (a 7) 205 kpf), (wAr y (a 8) 1230 hsf), (wAr y (a 9) 410 slf)].flatten H → va_D A [(wMo y a rc is_ pd pn ho eh mv at_9 tk9 fs9 lt9 ea9), (wAr y (a 6) 205 stf9), (wAr y (a 7) 205 kpf), (wAr y (a 8) 1230 hsf), (wAr y (a 9) 410 slf)].flatten → va_S A s.heap H locs → W p l e R s m args below meth c H locs 0 0 Q (F0 m pc ls [.int (jI v9)])) → W p l e R s m args below meth c s.heap [] 0 0 Q (F0 m 0 ls []) := by
    intro Q hE_
    have hS_ : va_S A s.heap s.heap [] := va_S.rf
    have hl_ : lv_has ls 4 [(0, .ref (a 0)), (1, .int (jI x1))] := hl_
    have hin_ : ∀ w ∈ u_ws RX5 TX5 16, w ∈ wsX5_wrongInPad := by decide +kernel
    unfold f_X5_wrongInPad at h_
    refine lv_iconst (v := jI 0) hx_ hb_ dX5_wrongInPad_0 (by decide +kernel) ?_
    refine lv_istore_n (lv' := [(2, .int (jI 0)), (0, .ref (a 0)), (1, .int (jI x1))]) hx_ hb_ dX5_wrongInPad_1 rfl hl_ (by decide) rfl (fun ls hl_ => ?_)
    refine lv_aload_n hx_ hb_ dX5_wrongInPad_2 rfl (lv_at hl_ 1 rfl) ?_
    refine lv_iconst (v := jI 0) hx_ hb_ dX5_wrongInPad_3 (by decide +kernel) ?_
    refine va_put (D := D) (ci := 5) (v := .int (jI 0)) (ty := .int) (C := RX5) (T := TX5) (N := 16) hx_ hb_ hts_ hin_ tyX5 tyX5_ok nmX5 hown_ hM_.1 hP_ hD_ hS_ 0 rfl rfl 11 (by decide) (hts_ (.fieldLink RX5 142 "MusicHolesModel" "at" "I") (by decide +kernel)) (fun _ h9_ => h9_) rfl (by decide +kernel) rfl rfl (Nat.le_of_ble_eq_true rfl) dX5_wrongInPad_4 (fun H locs hP_ hD_ hS_ => ?_)
    have hP_ : va_P D vwCl [(wMo y a rc is_ pd pn ho eh mv 0 tk fs lt ea), (wAr y (a 6) 205 stf), (wAr y (a 7) 205 kpf), (wAr y (a 8) 1230 hsf), (wAr y (a 9) 410 slf)].flatten H := hP_
    have hD_ : va_D A [(wMo y a rc is_ pd pn ho eh mv 0 tk fs lt ea), (wAr y (a 6) 205 stf), (wAr y (a 7) 205 kpf), (wAr y (a 8) 1230 hsf), (wAr y (a 9) 410 slf)].flatten := hD_
    have hX116 : ∀ (at__m1 : Int) (tk_m2 : Int) (fs_m3 : Int) (lt_m4 : Int) (ea_m5 : Int) (stf_m6 : Int → Int) (v7 : Int) (H : Heap) (locs : List Loc) (ls : Array Slot), f_X5_wrongInPad_X116 fu at__m1 tk_m2 fs_m3 lt_m4 ea_m5 stf_m6 v7 = some (rr, q_at_, q_tk, q_fs, q_lt, q_ea, q_stf) → va_P D vwCl [(wMo y a rc is_ pd pn ho eh mv at__m1 tk_m2 fs_m3 lt_m4 ea_m5), (wAr y (a 6) 205 stf_m6), (wAr y (a 7) 205 kpf), (wAr y (a 8) 1230 hsf), (wAr y (a 9) 410 slf)].flatten H → va_D A [(wMo y a rc is_ pd pn ho eh mv at__m1 tk_m2 fs_m3 lt_m4 ea_m5), (wAr y (a 6) 205 stf_m6), (wAr y (a 7) 205 kpf), (wAr y (a 8) 1230 hsf), (wAr y (a 9) 410 slf)].flatten → va_S A s.heap H locs → lv_has ls 4 [(2, .int (jI v7))] → W p l e R s m args below meth c H locs 0 0 Q (F0 m 116 ls []) := by
      intro at__m1 tk_m2 fs_m3 lt_m4 ea_m5 stf_m6 v7 H locs ls h_ hP_ hD_ hS_ hl_
      unfold f_X5_wrongInPad_X116 at h_
      refine lv_iload_n hx_ hb_ dX5_wrongInPad_116 rfl (lv_at hl_ 0 rfl) ?_
      exact hE_ _ _ _ _ _ _ _ _ _ _ _ h_ dX5_wrongInPad_117 hP_ hD_ hS_
    have hL7 : ∀ n7 : Nat, ∀ (at__m8 : Int) (tk_m9 : Int) (fs_m10 : Int) (lt_m11 : Int) (ea_m12 : Int) (stf_m13 : Int → Int) (v14 : Int) (H : Heap) (locs : List Loc) (ls : Array Slot), f_X5_wrongInPad_L7 fu pd pn x1 (f_X5_wrongInPad_X116 fu) n7 at__m8 tk_m9 fs_m10 lt_m11 ea_m12 stf_m13 v14 = some (rr, q_at_, q_tk, q_fs, q_lt, q_ea, q_stf) → va_P D vwCl [(wMo y a rc is_ pd pn ho eh mv at__m8 tk_m9 fs_m10 lt_m11 ea_m12), (wAr y (a 6) 205 stf_m13), (wAr y (a 7) 205 kpf), (wAr y (a 8) 1230 hsf), (wAr y (a 9) 410 slf)].flatten H → va_D A [(wMo y a rc is_ pd pn ho eh mv at__m8 tk_m9 fs_m10 lt_m11 ea_m12), (wAr y (a 6) 205 stf_m13), (wAr y (a 7) 205 kpf), (wAr y (a 8) 1230 hsf), (wAr y (a 9) 410 slf)].flatten → va_S A s.heap H locs → lv_has ls 4 [(0, .ref (a 0)), (1, .int (jI x1)), (2, .int (jI v14))] → W p l e R s m args below meth c H locs 0 0 Q (F0 m 7 ls []) := by
      intro n7
      induction n7 with
      | zero => intro _ _ _ _ _ _ _ H locs ls h_; have h_ : (none : Option (Int × Int × Int × Int × Int × Int × (Int → Int))) = some (rr, q_at_, q_tk, q_fs, q_lt, q_ea, q_stf) := h_; cases h_
      | succ n7 ih7 =>
        intro at__m8 tk_m9 fs_m10 lt_m11 ea_m12 stf_m13 v14 H locs ls h_ hP_ hD_ hS_ hl_
        replace h_ : f_X5_wrongInPad_L7_b fu pd pn x1 (f_X5_wrongInPad_X116 fu) (f_X5_wrongInPad_L7 fu pd pn x1 (f_X5_wrongInPad_X116 fu) n7) at__m8 tk_m9 fs_m10 lt_m11 ea_m12 stf_m13 v14 = some (rr, q_at_, q_tk, q_fs, q_lt, q_ea, q_stf) := h_
        unfold f_X5_wrongInPad_L7_b at h_
        refine lv_aload_n hx_ hb_ dX5_wrongInPad_7 rfl (lv_at hl_ 0 rfl) ?_
        refine va_get (D := D) (ci := 5) (v := .int (jI at__m8)) (C := RX5) (T := TX5) (N := 16) hx_ hb_ hts_ hin_ hown_ hM_.1 hP_ 0 rfl rfl 11 (by decide) (hts_ (.fieldLink RX5 142 "MusicHolesModel" "at" "I") (by decide +kernel)) (fun _ h9_ => h9_) rfl dX5_wrongInPad_8 ?_
        refine lv_aload_n hx_ hb_ dX5_wrongInPad_11 rfl (lv_at hl_ 0 rfl) ?_
        refine va_get (D := D) (ci := 5) (v := .int (jI pn)) (C := RX5) (T := TX5) (N := 16) hx_ hb_ hts_ hin_ hown_ hM_.1 hP_ 0 rfl rfl 7 (by decide) (hts_ (.fieldLink RX5 145 "MusicHolesModel" "padLength" "I") (by decide +kernel)) (fun _ h9_ => h9_) rfl dX5_wrongInPad_12 ?_
        refine jx_icmp_ge (tgt := 116) hx_ hb_ h_ dX5_wrongInPad_15 (by decide) (fun h_ => ?_) (fun h_ => ?_)
        · exact hX116 _ _ _ _ _ _ _ _ _ ls h_ hP_ hD_ hS_ (lv_sub hl_ [2] rfl)
        · refine lv_aload_n hx_ hb_ dX5_wrongInPad_18 rfl (lv_at hl_ 0 rfl) ?_
          obtain ⟨v15, at__m16, tk_m17, fs_m18, lt_m19, ea_m20, hv15, h_⟩ := jb6_i h_
          refine jx_cvi (wr := []) (cw := [(wMo y a rc is_ pd pn ho eh mv at__m8 tk_m9 fs_m10 lt_m11 ea_m12), (wAr y (a 6) 205 stf_m13), (wAr y (a 7) 205 kpf), (wAr y (a 8) 1230 hsf), (wAr y (a 9) 410 slf)]) (cw1 := [(wMo y a rc is_ pd pn ho eh mv at__m16 tk_m17 fs_m18 lt_m19 ea_m20), (wAr y (a 6) 205 stf_m13), (wAr y (a 7) 205 kpf), (wAr y (a 8) 1230 hsf), (wAr y (a 9) 410 slf)]) (cs1 := [(wMo y a rc is_ pd pn ho eh mv at__m16 tk_m17 fs_m18 lt_m19 ea_m20), (wAr y (a 6) 205 stf_m13), (wAr y (a 7) 205 kpf), (wAr y (a 8) 1230 hsf), (wAr y (a 9) 410 slf)]) (As := []) (rest := []) ⟨hx_, hb_, hml_, hown_, hts_⟩ hM_ hP_ hD_ hS_ hA_ (List.Perm.refl _) (List.Perm.refl _) (c_X5_readsNote l D y z a rc is_ pd pn ho eh mv at__m8 tk_m9 fs_m10 lt_m11 ea_m12 stf_m13 kpf hsf slf fu v15 at__m16 tk_m17 fs_m18 lt_m19 ea_m20 hv15) 0 gX5_wrongInPad_X5_readsNote rfl ⟨rfl, rfl⟩ (by decide +kernel) ⟨by rw [hR_]; exact Nat.le_of_ble_eq_true rfl, by rw [hR_]; exact Nat.le_of_ble_eq_true rfl⟩ 0 5 rfl rfl rfl rfl rfl hl_.1 (Nat.le_of_ble_eq_true rfl) dX5_wrongInPad_19 ⟨Nat.zero_le _, Nat.zero_le _⟩ (fun H locs hP_ hD_ hS_ => ?_)
          refine lv_pop hx_ hb_ dX5_wrongInPad_22 rfl ?_
          refine lv_aload_n hx_ hb_ dX5_wrongInPad_23 rfl (lv_at hl_ 0 rfl) ?_
          refine lv_bipush (v := jI 59) hx_ hb_ dX5_wrongInPad_24 (by decide +kernel) ?_
          obtain ⟨v21, at__m22, hv21, h_⟩ := jb2_i h_
          refine jx_cvi (wr := []) (cw := [(wMo y a rc is_ pd pn ho eh mv at__m16 tk_m17 fs_m18 lt_m19 ea_m20), (wAr y (a 6) 205 stf_m13), (wAr y (a 7) 205 kpf), (wAr y (a 8) 1230 hsf), (wAr y (a 9) 410 slf)]) (cw1 := [(wMo y a rc is_ pd pn ho eh mv at__m22 tk_m17 fs_m18 lt_m19 ea_m20), (wAr y (a 6) 205 stf_m13), (wAr y (a 7) 205 kpf), (wAr y (a 8) 1230 hsf), (wAr y (a 9) 410 slf)]) (cs1 := [(wMo y a rc is_ pd pn ho eh mv at__m22 tk_m17 fs_m18 lt_m19 ea_m20), (wAr y (a 6) 205 stf_m13), (wAr y (a 7) 205 kpf), (wAr y (a 8) 1230 hsf), (wAr y (a 9) 410 slf)]) (As := [.int (jI 59)]) (rest := []) ⟨hx_, hb_, hml_, hown_, hts_⟩ hM_ hP_ hD_ hS_ hA_ (List.Perm.refl _) (List.Perm.refl _) (c_X5_isNext l D y z a rc is_ pd pn ho eh mv at__m16 tk_m17 fs_m18 lt_m19 ea_m20 stf_m13 kpf hsf slf 59 fu v21 at__m22 hv21) 1 gX5_wrongInPad_X5_isNext rfl ⟨rfl, rfl⟩ (by decide +kernel) ⟨by rw [hR_]; exact Nat.le_of_ble_eq_true rfl, by rw [hR_]; exact Nat.le_of_ble_eq_true rfl⟩ 0 5 rfl rfl rfl rfl rfl hl_.1 (Nat.le_of_ble_eq_true rfl) dX5_wrongInPad_26 ⟨Nat.zero_le _, Nat.zero_le _⟩ (fun H locs hP_ hD_ hS_ => ?_)
          refine lv_pop hx_ hb_ dX5_wrongInPad_29 rfl ?_
          refine lv_iload_n hx_ hb_ dX5_wrongInPad_30 rfl (lv_at hl_ 1 rfl) ?_
          have hJ90 : ∀  (H : Heap) (locs : List Loc) (ls : Array Slot), f_X5_wrongInPad_J90 fu x1 stf_m13 v14 tk_m17 fs_m18 lt_m19 ea_m20 at__m22 (f_X5_wrongInPad_L7 fu pd pn x1 (f_X5_wrongInPad_X116 fu) n7) = some (rr, q_at_, q_tk, q_fs, q_lt, q_ea, q_stf) → va_P D vwCl [(wMo y a rc is_ pd pn ho eh mv at__m22 tk_m17 fs_m18 lt_m19 ea_m20), (wAr y (a 6) 205 stf_m13), (wAr y (a 7) 205 kpf), (wAr y (a 8) 1230 hsf), (wAr y (a 9) 410 slf)].flatten H → va_D A [(wMo y a rc is_ pd pn ho eh mv at__m22 tk_m17 fs_m18 lt_m19 ea_m20), (wAr y (a 6) 205 stf_m13), (wAr y (a 7) 205 kpf), (wAr y (a 8) 1230 hsf), (wAr y (a 9) 410 slf)].flatten → va_S A s.heap H locs → lv_has ls 4 [(0, .ref (a 0)), (1, .int (jI x1)), (2, .int (jI v14))] → W p l e R s m args below meth c H locs 0 0 Q (F0 m 90 ls []) := by
            intro  H locs ls h_ hP_ hD_ hS_ hl_
            unfold f_X5_wrongInPad_J90 at h_
            refine lv_iload_n hx_ hb_ dX5_wrongInPad_90 rfl (lv_at hl_ 2 rfl) ?_
            refine lv_iload_n hx_ hb_ dX5_wrongInPad_91 rfl (lv_at hl_ 1 rfl) ?_
            refine jx_if_ne (tgt := 106) hx_ hb_ h_ dX5_wrongInPad_92 (by decide) (fun h_ => ?_) (fun h_ => ?_)
            · refine lv_iconst (v := jI 1) hx_ hb_ dX5_wrongInPad_106 (by decide +kernel) ?_
              refine lv_goto (tgt := 111) hx_ hb_ dX5_wrongInPad_107 (by decide) ?_
              refine jx_iadd hx_ hb_ dX5_wrongInPad_111 ?_
              refine lv_istore_n (lv' := [(2, .int (jI (v14 + 1))), (0, .ref (a 0)), (1, .int (jI x1))]) hx_ hb_ dX5_wrongInPad_112 rfl hl_ (by decide) rfl (fun ls hl_ => ?_)
              refine lv_goto (tgt := 7) hx_ hb_ dX5_wrongInPad_113 (by decide) ?_
              exact ih7 _ _ _ _ _ _ _ _ _ ls h_ hP_ hD_ hS_ (lv_sub hl_ [1, 2, 0] rfl)
            · refine lv_aload_n hx_ hb_ dX5_wrongInPad_95 rfl (lv_at hl_ 0 rfl) ?_
              refine va_get (D := D) (ci := 5) (v := .int (jI lt_m19)) (C := RX5) (T := TX5) (N := 16) hx_ hb_ hts_ hin_ hown_ hM_.1 hP_ 0 rfl rfl 14 (by decide) (hts_ (.fieldLink RX5 161 "MusicHolesModel" "last" "I") (by decide +kernel)) (fun _ h9_ => h9_) rfl dX5_wrongInPad_96 ?_
              refine lv_aload_n hx_ hb_ dX5_wrongInPad_99 rfl (lv_at hl_ 0 rfl) ?_
              refine va_get (D := D) (ci := 5) (v := .int (jI fs_m18)) (C := RX5) (T := TX5) (N := 16) hx_ hb_ hts_ hin_ hown_ hM_.1 hP_ 0 rfl rfl 13 (by decide) (hts_ (.fieldLink RX5 158 "MusicHolesModel" "first" "I") (by decide +kernel)) (fun _ h9_ => h9_) rfl dX5_wrongInPad_100 ?_
              refine jx_icmp_ge (tgt := 110) hx_ hb_ h_ dX5_wrongInPad_103 (by decide) (fun h_ => ?_) (fun h_ => ?_)
              · refine lv_iconst (v := jI 0) hx_ hb_ dX5_wrongInPad_110 (by decide +kernel) ?_
                refine jx_iadd hx_ hb_ dX5_wrongInPad_111 ?_
                refine lv_istore_n (lv' := [(2, .int (jI (v14 + 0))), (0, .ref (a 0)), (1, .int (jI x1))]) hx_ hb_ dX5_wrongInPad_112 rfl hl_ (by decide) rfl (fun ls hl_ => ?_)
                refine lv_goto (tgt := 7) hx_ hb_ dX5_wrongInPad_113 (by decide) ?_
                exact ih7 _ _ _ _ _ _ _ _ _ ls h_ hP_ hD_ hS_ (lv_sub hl_ [1, 2, 0] rfl)
              · refine lv_iconst (v := jI 1) hx_ hb_ dX5_wrongInPad_106 (by decide +kernel) ?_
                refine lv_goto (tgt := 111) hx_ hb_ dX5_wrongInPad_107 (by decide) ?_
                refine jx_iadd hx_ hb_ dX5_wrongInPad_111 ?_
                refine lv_istore_n (lv' := [(2, .int (jI (v14 + 1))), (0, .ref (a 0)), (1, .int (jI x1))]) hx_ hb_ dX5_wrongInPad_112 rfl hl_ (by decide) rfl (fun ls hl_ => ?_)
                refine lv_goto (tgt := 7) hx_ hb_ dX5_wrongInPad_113 (by decide) ?_
                exact ih7 _ _ _ _ _ _ _ _ _ ls h_ hP_ hD_ hS_ (lv_sub hl_ [1, 2, 0] rfl)
          refine jx_if_eq (tgt := 90) hx_ hb_ h_ dX5_wrongInPad_31 (by decide) (fun h_ => ?_) (fun h_ => ?_)
          · exact hJ90  _ _ ls h_ hP_ hD_ hS_ (lv_sub hl_ [0, 1, 2] rfl)
          · refine lv_aload_n hx_ hb_ dX5_wrongInPad_34 rfl (lv_at hl_ 0 rfl) ?_
            refine lv_aload_n hx_ hb_ dX5_wrongInPad_35 rfl (lv_at hl_ 0 rfl) ?_
            refine va_get (D := D) (ci := 5) (v := .int (jI tk_m17)) (C := RX5) (T := TX5) (N := 16) hx_ hb_ hts_ hin_ hown_ hM_.1 hP_ 0 rfl rfl 12 (by decide) (hts_ (.fieldLink RX5 155 "MusicHolesModel" "track" "I") (by decide +kernel)) (fun _ h9_ => h9_) rfl dX5_wrongInPad_36 ?_
            refine lv_aload_n hx_ hb_ dX5_wrongInPad_39 rfl (lv_at hl_ 0 rfl) ?_
            refine va_get (D := D) (ci := 5) (v := .int (jI fs_m18)) (C := RX5) (T := TX5) (N := 16) hx_ hb_ hts_ hin_ hown_ hM_.1 hP_ 0 rfl rfl 13 (by decide) (hts_ (.fieldLink RX5 158 "MusicHolesModel" "first" "I") (by decide +kernel)) (fun _ h9_ => h9_) rfl dX5_wrongInPad_40 ?_
            refine lv_aload_n hx_ hb_ dX5_wrongInPad_43 rfl (lv_at hl_ 0 rfl) ?_
            refine va_get (D := D) (ci := 5) (v := .int (jI lt_m19)) (C := RX5) (T := TX5) (N := 16) hx_ hb_ hts_ hin_ hown_ hM_.1 hP_ 0 rfl rfl 14 (by decide) (hts_ (.fieldLink RX5 161 "MusicHolesModel" "last" "I") (by decide +kernel)) (fun _ h9_ => h9_) rfl dX5_wrongInPad_44 ?_
            obtain ⟨v23, hv23, h_⟩ := jb_i h_
            refine jx_cvi (wr := []) (cw := [(wMo y a rc is_ pd pn ho eh mv at__m22 tk_m17 fs_m18 lt_m19 ea_m20), (wAr y (a 6) 205 stf_m13), (wAr y (a 7) 205 kpf), (wAr y (a 8) 1230 hsf), (wAr y (a 9) 410 slf)]) (cw1 := [(wMo y a rc is_ pd pn ho eh mv at__m22 tk_m17 fs_m18 lt_m19 ea_m20), (wAr y (a 6) 205 stf_m13), (wAr y (a 7) 205 kpf), (wAr y (a 8) 1230 hsf), (wAr y (a 9) 410 slf)]) (cs1 := [(wMo y a rc is_ pd pn ho eh mv at__m22 tk_m17 fs_m18 lt_m19 ea_m20), (wAr y (a 6) 205 stf_m13), (wAr y (a 7) 205 kpf), (wAr y (a 8) 1230 hsf), (wAr y (a 9) 410 slf)]) (As := [.int (jI tk_m17), .int (jI fs_m18), .int (jI lt_m19)]) (rest := []) ⟨hx_, hb_, hml_, hown_, hts_⟩ hM_ hP_ hD_ hS_ hA_ (List.Perm.refl _) (List.Perm.refl _) (c_X5_isTaken l D y z a rc is_ pd pn ho eh mv at__m22 tk_m17 fs_m18 lt_m19 ea_m20 stf_m13 kpf hsf slf tk_m17 fs_m18 lt_m19 fu v23 hv23) 3 gX5_wrongInPad_X5_isTaken rfl ⟨rfl, rfl⟩ (by decide +kernel) ⟨by rw [hR_]; exact Nat.le_of_ble_eq_true rfl, by rw [hR_]; exact Nat.le_of_ble_eq_true rfl⟩ 0 5 rfl rfl rfl rfl rfl hl_.1 (Nat.le_of_ble_eq_true rfl) dX5_wrongInPad_47 ⟨Nat.zero_le _, Nat.zero_le _⟩ (fun H locs hP_ hD_ hS_ => ?_)
            refine jx_if_ne (tgt := 90) hx_ hb_ h_ dX5_wrongInPad_50 (by decide) (fun h_ => ?_) (fun h_ => ?_)
            · exact hJ90  _ _ ls h_ hP_ hD_ hS_ (lv_sub hl_ [0, 1, 2] rfl)
            · refine lv_aload_n hx_ hb_ dX5_wrongInPad_53 rfl (lv_at hl_ 0 rfl) ?_
              refine lv_aload_n hx_ hb_ dX5_wrongInPad_54 rfl (lv_at hl_ 0 rfl) ?_
              refine va_get (D := D) (ci := 5) (v := .int (jI tk_m17)) (C := RX5) (T := TX5) (N := 16) hx_ hb_ hts_ hin_ hown_ hM_.1 hP_ 0 rfl rfl 12 (by decide) (hts_ (.fieldLink RX5 155 "MusicHolesModel" "track" "I") (by decide +kernel)) (fun _ h9_ => h9_) rfl dX5_wrongInPad_55 ?_
              refine lv_aload_n hx_ hb_ dX5_wrongInPad_58 rfl (lv_at hl_ 0 rfl) ?_
              refine va_get (D := D) (ci := 5) (v := .int (jI fs_m18)) (C := RX5) (T := TX5) (N := 16) hx_ hb_ hts_ hin_ hown_ hM_.1 hP_ 0 rfl rfl 13 (by decide) (hts_ (.fieldLink RX5 158 "MusicHolesModel" "first" "I") (by decide +kernel)) (fun _ h9_ => h9_) rfl dX5_wrongInPad_59 ?_
              refine lv_aload_n hx_ hb_ dX5_wrongInPad_62 rfl (lv_at hl_ 0 rfl) ?_
              refine va_get (D := D) (ci := 5) (v := .int (jI lt_m19)) (C := RX5) (T := TX5) (N := 16) hx_ hb_ hts_ hin_ hown_ hM_.1 hP_ 0 rfl rfl 14 (by decide) (hts_ (.fieldLink RX5 161 "MusicHolesModel" "last" "I") (by decide +kernel)) (fun _ h9_ => h9_) rfl dX5_wrongInPad_63 ?_
              refine lv_iconst (v := jI 0) hx_ hb_ dX5_wrongInPad_66 (by decide +kernel) ?_
              refine lv_aload_n hx_ hb_ dX5_wrongInPad_67 rfl (lv_at hl_ 0 rfl) ?_
              refine va_get (D := D) (ci := 5) (v := .int (jI ea_m20)) (C := RX5) (T := TX5) (N := 16) hx_ hb_ hts_ hin_ hown_ hM_.1 hP_ 0 rfl rfl 15 (by decide) (hts_ (.fieldLink RX5 164 "MusicHolesModel" "hasAccent" "I") (by decide +kernel)) (fun _ h9_ => h9_) rfl dX5_wrongInPad_68 ?_
              obtain ⟨v24, stf_m25, hv24, h_⟩ := jb2_i h_
              refine jx_cvi (wr := []) (cw := [(wMo y a rc is_ pd pn ho eh mv at__m22 tk_m17 fs_m18 lt_m19 ea_m20), (wAr y (a 6) 205 stf_m13), (wAr y (a 7) 205 kpf), (wAr y (a 8) 1230 hsf), (wAr y (a 9) 410 slf)]) (cw1 := [(wMo y a rc is_ pd pn ho eh mv at__m22 tk_m17 fs_m18 lt_m19 ea_m20), (wAr y (a 6) 205 stf_m25), (wAr y (a 7) 205 kpf), (wAr y (a 8) 1230 hsf), (wAr y (a 9) 410 slf)]) (cs1 := [(wMo y a rc is_ pd pn ho eh mv at__m22 tk_m17 fs_m18 lt_m19 ea_m20), (wAr y (a 6) 205 stf_m25), (wAr y (a 7) 205 kpf), (wAr y (a 8) 1230 hsf), (wAr y (a 9) 410 slf)]) (As := [.int (jI tk_m17), .int (jI fs_m18), .int (jI lt_m19), .int (jI 0), .int (jI ea_m20)]) (rest := []) ⟨hx_, hb_, hml_, hown_, hts_⟩ hM_ hP_ hD_ hS_ hA_ (List.Perm.refl _) (List.Perm.refl _) (c_X5_putIn l D y z a rc is_ pd pn ho eh mv at__m22 tk_m17 fs_m18 lt_m19 ea_m20 stf_m13 kpf hsf slf tk_m17 fs_m18 lt_m19 0 ea_m20 fu v24 stf_m25 hv24) 5 gX5_wrongInPad_X5_putIn rfl ⟨rfl, rfl⟩ (by decide +kernel) ⟨by rw [hR_]; exact Nat.le_of_ble_eq_true rfl, by rw [hR_]; exact Nat.le_of_ble_eq_true rfl⟩ 0 5 rfl rfl rfl rfl rfl hl_.1 (Nat.le_of_ble_eq_true rfl) dX5_wrongInPad_71 ⟨Nat.zero_le _, Nat.zero_le _⟩ (fun H locs hP_ hD_ hS_ => ?_)
              refine lv_istore_n (lv' := [(3, .int (jI v24)), (0, .ref (a 0)), (1, .int (jI x1)), (2, .int (jI v14))]) hx_ hb_ dX5_wrongInPad_74 rfl hl_ (by decide) rfl (fun ls hl_ => ?_)
              refine lv_iload_n hx_ hb_ dX5_wrongInPad_75 rfl (lv_at hl_ 3 rfl) ?_
              refine lv_iload_n hx_ hb_ dX5_wrongInPad_76 rfl (lv_at hl_ 0 rfl) ?_
              refine jx_if_ge (tgt := 84) hx_ hb_ h_ dX5_wrongInPad_77 (by decide) (fun h_ => ?_) (fun h_ => ?_)
              · refine lv_iconst (v := jI 0) hx_ hb_ dX5_wrongInPad_84 (by decide +kernel) ?_
                refine jx_iadd hx_ hb_ dX5_wrongInPad_85 ?_
                refine lv_istore_n (lv' := [(2, .int (jI (v14 + 0))), (3, .int (jI v24)), (0, .ref (a 0)), (1, .int (jI x1))]) hx_ hb_ dX5_wrongInPad_86 rfl hl_ (by decide) rfl (fun ls hl_ => ?_)
                refine lv_goto (tgt := 7) hx_ hb_ dX5_wrongInPad_87 (by decide) ?_
                exact ih7 _ _ _ _ _ _ _ _ _ ls h_ hP_ hD_ hS_ (lv_sub hl_ [2, 3, 0] rfl)
              · refine lv_iconst (v := jI 1) hx_ hb_ dX5_wrongInPad_80 (by decide +kernel) ?_
                refine lv_goto (tgt := 85) hx_ hb_ dX5_wrongInPad_81 (by decide) ?_
                refine jx_iadd hx_ hb_ dX5_wrongInPad_85 ?_
                refine lv_istore_n (lv' := [(2, .int (jI (v14 + 1))), (3, .int (jI v24)), (0, .ref (a 0)), (1, .int (jI x1))]) hx_ hb_ dX5_wrongInPad_86 rfl hl_ (by decide) rfl (fun ls hl_ => ?_)
                refine lv_goto (tgt := 7) hx_ hb_ dX5_wrongInPad_87 (by decide) ?_
                exact ih7 _ _ _ _ _ _ _ _ _ ls h_ hP_ hD_ hS_ (lv_sub hl_ [2, 3, 0] rfl)
    exact hL7 fu _ _ _ _ _ _ _ _ _ ls h_ hP_ hD_ hS_ (lv_sub hl_ [1, 2, 0] rfl)
  exact key_ _ (fun v9 at_9 tk9 fs9 lt9 ea9 stf9 H locs pc ls h9_ hdg_ hP_ hD_ hS_ => by cases h9_; exact jend_i hx_ hb_ hr_ hlocks_ hP_ hD_ hS_ hdg_)
def rm_X5_notesInPad : Room := { frames := 0, cells := 0, slots := 0, locals := 0 }
set_option maxRecDepth 100000 in
set_option maxHeartbeats 8000000 in
theorem c_X5_notesInPad (l : Launch) (D : va_G) (y : Nat → ClassId) (z : Nat → Nat) (a : Nat → Nat) (rc : Int) (is_ : Int → Int) (pd : Int → Int) (pn : Int) (ho : Int → Int) (eh : Int → Int) (mv : Int → Int) (at_ : Int) (tk : Int) (fs : Int) (lt : Int) (ea : Int) (stf : Int → Int) (kpf : Int → Int) (hsf : Int → Int) (slf : Int → Int)  (fu : Nat) (rr : Int) (h_ : f_X5_notesInPad fu pd pn = some rr) : jCI l D y z yX5_notesInPad wsX5_notesInPad rm_X5_notesInPad [.ref (a 0)] [(wMo y a rc is_ pd pn ho eh mv at_ tk fs lt ea), (wAr y (a 6) 205 stf), (wAr y (a 7) 205 kpf), (wAr y (a 8) 1230 hsf), (wAr y (a 9) 410 slf)] [(wMo y a rc is_ pd pn ho eh mv at_ tk fs lt ea), (wAr y (a 6) 205 stf), (wAr y (a 7) 205 kpf), (wAr y (a 8) 1230 hsf), (wAr y (a 9) 410 slf)] rr := by
  intro sz
  refine jmet (Qc := (fun A => va_Qi (fun v (_ : Unit) => v = jI rr) (jB D A [(wMo y a rc is_ pd pn ho eh mv at_ tk fs lt ea), (wAr y (a 6) 205 stf), (wAr y (a 7) 205 kpf), (wAr y (a 8) 1230 hsf), (wAr y (a 9) 410 slf)]) A)) (cc := cX5_notesInPad) (maxL := 3) (ret := (some .int)) (own := RX5) (by decide) rfl (Nat.le_of_ble_eq_true rfl) rfl (fun p e s m R args below meth c A ls hR_ hargs_ hx_ hb_ hr_ hlocks_ hml_ hown_ hts_ hname_ hsz_ hP_ hD_ hA_ hM_ hl_ => ?_)
  have key_ : ∀ Q : State → Prop, (∀ (v9 : Int) (H : Heap) (locs : List Loc) (pc : Nat) (ls : Array Slot), some v9 = some rr → decode cX5_notesInPad pc = .ok (.ireturn, 1) → va_P D vwCl [(wMo y a rc is_ pd pn ho eh mv at_ tk fs lt ea), (wAr y (a 6) 205 stf), (wAr y (a 7) 205 kpf), (wAr y (a 8) 1230 hsf), (wAr y (a 9) 410 slf)].flatten H → va_D A [(wMo y a rc is_ pd pn ho eh mv at_ tk fs lt ea), (wAr y (a 6) 205 stf), (wAr y (a 7) 205 kpf), (wAr y (a 8) 1230 hsf), (wAr y (a 9) 410 slf)].flatten → va_S A s.heap H locs → W p l e R s m args below meth c H locs 0 0 Q (F0 m pc ls [.int (jI v9)])) → W p l e R s m args below meth c s.heap [] 0 0 Q (F0 m 0 ls []) := by
    intro Q hE_
    have hS_ : va_S A s.heap s.heap [] := va_S.rf
    have hl_ : lv_has ls 3 [(0, .ref (a 0))] := hl_
    have hin_ : ∀ w ∈ u_ws RX5 TX5 16, w ∈ wsX5_notesInPad := by decide +kernel
    unfold f_X5_notesInPad at h_
    refine lv_iconst (v := jI 1) hx_ hb_ dX5_notesInPad_0 (by decide +kernel) ?_
    refine lv_istore_n (lv' := [(1, .int (jI 1)), (0, .ref (a 0))]) hx_ hb_ dX5_notesInPad_1 rfl hl_ (by decide) rfl (fun ls hl_ => ?_)
    refine lv_iconst (v := jI 0) hx_ hb_ dX5_notesInPad_2 (by decide +kernel) ?_
    refine lv_istore_n (lv' := [(2, .int (jI 0)), (1, .int (jI 1)), (0, .ref (a 0))]) hx_ hb_ dX5_notesInPad_3 rfl hl_ (by decide) rfl (fun ls hl_ => ?_)
    have hX37 : ∀ (v1 : Int) (H : Heap) (locs : List Loc) (ls : Array Slot), f_X5_notesInPad_X37 fu v1 = some rr → va_P D vwCl [(wMo y a rc is_ pd pn ho eh mv at_ tk fs lt ea), (wAr y (a 6) 205 stf), (wAr y (a 7) 205 kpf), (wAr y (a 8) 1230 hsf), (wAr y (a 9) 410 slf)].flatten H → va_D A [(wMo y a rc is_ pd pn ho eh mv at_ tk fs lt ea), (wAr y (a 6) 205 stf), (wAr y (a 7) 205 kpf), (wAr y (a 8) 1230 hsf), (wAr y (a 9) 410 slf)].flatten → va_S A s.heap H locs → lv_has ls 3 [(1, .int (jI v1))] → W p l e R s m args below meth c H locs 0 0 Q (F0 m 37 ls []) := by
      intro v1 H locs ls h_ hP_ hD_ hS_ hl_
      unfold f_X5_notesInPad_X37 at h_
      refine lv_iload_n hx_ hb_ dX5_notesInPad_37 rfl (lv_at hl_ 0 rfl) ?_
      exact hE_ _ _ _ _ _ h_ dX5_notesInPad_38 hP_ hD_ hS_
    have hL4 : ∀ n4 : Nat, ∀ (v2 : Int) (v3 : Int) (H : Heap) (locs : List Loc) (ls : Array Slot), f_X5_notesInPad_L4 fu pd pn (f_X5_notesInPad_X37 fu) n4 v2 v3 = some rr → va_P D vwCl [(wMo y a rc is_ pd pn ho eh mv at_ tk fs lt ea), (wAr y (a 6) 205 stf), (wAr y (a 7) 205 kpf), (wAr y (a 8) 1230 hsf), (wAr y (a 9) 410 slf)].flatten H → va_D A [(wMo y a rc is_ pd pn ho eh mv at_ tk fs lt ea), (wAr y (a 6) 205 stf), (wAr y (a 7) 205 kpf), (wAr y (a 8) 1230 hsf), (wAr y (a 9) 410 slf)].flatten → va_S A s.heap H locs → lv_has ls 3 [(0, .ref (a 0)), (1, .int (jI v2)), (2, .int (jI v3))] → W p l e R s m args below meth c H locs 0 0 Q (F0 m 4 ls []) := by
      intro n4
      induction n4 with
      | zero => intro _ _ H locs ls h_; have h_ : (none : Option (Int)) = some rr := h_; cases h_
      | succ n4 ih4 =>
        intro v2 v3 H locs ls h_ hP_ hD_ hS_ hl_
        replace h_ : f_X5_notesInPad_L4_b fu pd pn (f_X5_notesInPad_X37 fu) (f_X5_notesInPad_L4 fu pd pn (f_X5_notesInPad_X37 fu) n4) v2 v3 = some rr := h_
        unfold f_X5_notesInPad_L4_b at h_
        refine lv_iload_n hx_ hb_ dX5_notesInPad_4 rfl (lv_at hl_ 2 rfl) ?_
        refine lv_aload_n hx_ hb_ dX5_notesInPad_5 rfl (lv_at hl_ 0 rfl) ?_
        refine va_get (D := D) (ci := 5) (v := .int (jI pn)) (C := RX5) (T := TX5) (N := 16) hx_ hb_ hts_ hin_ hown_ hM_.1 hP_ 0 rfl rfl 7 (by decide) (hts_ (.fieldLink RX5 145 "MusicHolesModel" "padLength" "I") (by decide +kernel)) (fun _ h9_ => h9_) rfl dX5_notesInPad_6 ?_
        refine jx_icmp_ge (tgt := 37) hx_ hb_ h_ dX5_notesInPad_9 (by decide) (fun h_ => ?_) (fun h_ => ?_)
        · exact hX37 _ _ _ ls h_ hP_ hD_ hS_ (lv_sub hl_ [1] rfl)
        · refine lv_iload_n hx_ hb_ dX5_notesInPad_12 rfl (lv_at hl_ 1 rfl) ?_
          refine lv_aload_n hx_ hb_ dX5_notesInPad_13 rfl (lv_at hl_ 0 rfl) ?_
          refine va_get (D := D) (ci := 5) (v := .ref (a 2)) (C := RX5) (T := TX5) (N := 16) hx_ hb_ hts_ hin_ hown_ hM_.1 hP_ 0 rfl rfl 6 (by decide) (hts_ (.fieldLink RX5 25 "MusicHolesModel" "pad" "[I") (by decide +kernel)) (fun _ h9_ => h9_) rfl dX5_notesInPad_14 ?_
          refine lv_iload_n hx_ hb_ dX5_notesInPad_17 rfl (lv_at hl_ 2 rfl) ?_
          refine jx_iald hx_ hb_ hM_ hP_ 2 0 rfl rfl rfl (Nat.le_of_ble_eq_true rfl) h_ dX5_notesInPad_18 (fun h_ => ?_)
          refine lv_bipush (v := jI 59) hx_ hb_ dX5_notesInPad_19 (by decide +kernel) ?_
          refine jx_icmp_ne (tgt := 28) hx_ hb_ h_ dX5_notesInPad_21 (by decide) (fun h_ => ?_) (fun h_ => ?_)
          · refine lv_iconst (v := jI 0) hx_ hb_ dX5_notesInPad_28 (by decide +kernel) ?_
            refine jx_iadd hx_ hb_ dX5_notesInPad_29 ?_
            refine lv_istore_n (lv' := [(1, .int (jI (v2 + 0))), (0, .ref (a 0)), (2, .int (jI v3))]) hx_ hb_ dX5_notesInPad_30 rfl hl_ (by decide) rfl (fun ls hl_ => ?_)
            refine lv_iinc (v := jI (v3 + 1)) (lv' := [(2, .int (jI (v3 + 1))), (1, .int (jI (v2 + 0))), (0, .ref (a 0))]) hx_ hb_ dX5_notesInPad_31 hl_ (k := 2) rfl (jI_add _ _) (by decide) rfl (fun ls hl_ => ?_)
            refine lv_goto (tgt := 4) hx_ hb_ dX5_notesInPad_34 (by decide) ?_
            exact ih4 _ _ _ _ ls h_ hP_ hD_ hS_ (lv_sub hl_ [2, 1, 0] rfl)
          · refine lv_iconst (v := jI 1) hx_ hb_ dX5_notesInPad_24 (by decide +kernel) ?_
            refine lv_goto (tgt := 29) hx_ hb_ dX5_notesInPad_25 (by decide) ?_
            refine jx_iadd hx_ hb_ dX5_notesInPad_29 ?_
            refine lv_istore_n (lv' := [(1, .int (jI (v2 + 1))), (0, .ref (a 0)), (2, .int (jI v3))]) hx_ hb_ dX5_notesInPad_30 rfl hl_ (by decide) rfl (fun ls hl_ => ?_)
            refine lv_iinc (v := jI (v3 + 1)) (lv' := [(2, .int (jI (v3 + 1))), (1, .int (jI (v2 + 1))), (0, .ref (a 0))]) hx_ hb_ dX5_notesInPad_31 hl_ (k := 2) rfl (jI_add _ _) (by decide) rfl (fun ls hl_ => ?_)
            refine lv_goto (tgt := 4) hx_ hb_ dX5_notesInPad_34 (by decide) ?_
            exact ih4 _ _ _ _ ls h_ hP_ hD_ hS_ (lv_sub hl_ [2, 1, 0] rfl)
    exact hL4 fu _ _ _ _ ls h_ hP_ hD_ hS_ (lv_sub hl_ [2, 1, 0] rfl)
  exact key_ _ (fun v9 H locs pc ls h9_ hdg_ hP_ hD_ hS_ => by cases h9_; exact jend_i hx_ hb_ hr_ hlocks_ hP_ hD_ hS_ hdg_)
def rm_X5_findFault : Room := { frames := 3, cells := 0, slots := 0, locals := 65 }
set_option maxRecDepth 100000 in
set_option maxHeartbeats 8000000 in
theorem c_X5_findFault (l : Launch) (D : va_G) (y : Nat → ClassId) (z : Nat → Nat) (a : Nat → Nat) (rc : Int) (is_ : Int → Int) (pd : Int → Int) (pn : Int) (ho : Int → Int) (eh : Int → Int) (mv : Int → Int) (at_ : Int) (tk : Int) (fs : Int) (lt : Int) (ea : Int) (stf : Int → Int) (kpf : Int → Int) (hsf : Int → Int) (slf : Int → Int)  (fu : Nat) (rr : Int) (q_at_ : Int) (q_tk : Int) (q_fs : Int) (q_lt : Int) (q_ea : Int) (h_ : f_X5_findFault fu pd pn at_ tk fs lt ea = some (rr, q_at_, q_tk, q_fs, q_lt, q_ea)) : jCI l D y z yX5_findFault wsX5_findFault rm_X5_findFault [.ref (a 0)] [(wMo y a rc is_ pd pn ho eh mv at_ tk fs lt ea), (wAr y (a 6) 205 stf), (wAr y (a 7) 205 kpf), (wAr y (a 8) 1230 hsf), (wAr y (a 9) 410 slf)] [(wMo y a rc is_ pd pn ho eh mv q_at_ q_tk q_fs q_lt q_ea), (wAr y (a 6) 205 stf), (wAr y (a 7) 205 kpf), (wAr y (a 8) 1230 hsf), (wAr y (a 9) 410 slf)] rr := by
  intro sz
  refine jmet (Qc := (fun A => va_Qi (fun v (_ : Unit) => v = jI rr) (jB D A [(wMo y a rc is_ pd pn ho eh mv q_at_ q_tk q_fs q_lt q_ea), (wAr y (a 6) 205 stf), (wAr y (a 7) 205 kpf), (wAr y (a 8) 1230 hsf), (wAr y (a 9) 410 slf)]) A)) (cc := cX5_findFault) (maxL := 1) (ret := (some .int)) (own := RX5) (by decide) rfl (Nat.le_of_ble_eq_true rfl) rfl (fun p e s m R args below meth c A ls hR_ hargs_ hx_ hb_ hr_ hlocks_ hml_ hown_ hts_ hname_ hsz_ hP_ hD_ hA_ hM_ hl_ => ?_)
  have key_ : ∀ Q : State → Prop, (∀ (v9 : Int) (at_9 : Int) (tk9 : Int) (fs9 : Int) (lt9 : Int) (ea9 : Int) (H : Heap) (locs : List Loc) (pc : Nat) (ls : Array Slot), some (v9, at_9, tk9, fs9, lt9, ea9) = some (rr, q_at_, q_tk, q_fs, q_lt, q_ea) → decode cX5_findFault pc = .ok (.ireturn, 1) → va_P D vwCl [(wMo y a rc is_ pd pn ho eh mv at_9 tk9 fs9 lt9 ea9), (wAr y (a 6) 205 stf), (wAr y (a 7) 205 kpf), (wAr y (a 8) 1230 hsf), (wAr y (a 9) 410 slf)].flatten H → va_D A [(wMo y a rc is_ pd pn ho eh mv at_9 tk9 fs9 lt9 ea9), (wAr y (a 6) 205 stf), (wAr y (a 7) 205 kpf), (wAr y (a 8) 1230 hsf), (wAr y (a 9) 410 slf)].flatten → va_S A s.heap H locs → W p l e R s m args below meth c H locs 0 0 Q (F0 m pc ls [.int (jI v9)])) → W p l e R s m args below meth c s.heap [] 0 0 Q (F0 m 0 ls []) := by
    intro Q hE_
    have hS_ : va_S A s.heap s.heap [] := va_S.rf
    have hl_ : lv_has ls 1 [(0, .ref (a 0))] := hl_
    have hin_ : ∀ w ∈ u_ws RX5 TX5 16, w ∈ wsX5_findFault := by decide +kernel
    unfold f_X5_findFault at h_
    refine lv_aload_n hx_ hb_ dX5_findFault_0 rfl (lv_at hl_ 0 rfl) ?_
    refine lv_iconst (v := jI 0) hx_ hb_ dX5_findFault_1 (by decide +kernel) ?_
    refine va_put (D := D) (ci := 5) (v := .int (jI 0)) (ty := .int) (C := RX5) (T := TX5) (N := 16) hx_ hb_ hts_ hin_ tyX5 tyX5_ok nmX5 hown_ hM_.1 hP_ hD_ hS_ 0 rfl rfl 11 (by decide) (hts_ (.fieldLink RX5 142 "MusicHolesModel" "at" "I") (by decide +kernel)) (fun _ h9_ => h9_) rfl (by decide +kernel) rfl rfl (Nat.le_of_ble_eq_true rfl) dX5_findFault_2 (fun H locs hP_ hD_ hS_ => ?_)
    have hP_ : va_P D vwCl [(wMo y a rc is_ pd pn ho eh mv 0 tk fs lt ea), (wAr y (a 6) 205 stf), (wAr y (a 7) 205 kpf), (wAr y (a 8) 1230 hsf), (wAr y (a 9) 410 slf)].flatten H := hP_
    have hD_ : va_D A [(wMo y a rc is_ pd pn ho eh mv 0 tk fs lt ea), (wAr y (a 6) 205 stf), (wAr y (a 7) 205 kpf), (wAr y (a 8) 1230 hsf), (wAr y (a 9) 410 slf)].flatten := hD_
    have hX40 : ∀ (at__m1 : Int) (tk_m2 : Int) (fs_m3 : Int) (lt_m4 : Int) (ea_m5 : Int) (H : Heap) (locs : List Loc) (ls : Array Slot), f_X5_findFault_X40 fu at__m1 tk_m2 fs_m3 lt_m4 ea_m5 = some (rr, q_at_, q_tk, q_fs, q_lt, q_ea) → va_P D vwCl [(wMo y a rc is_ pd pn ho eh mv at__m1 tk_m2 fs_m3 lt_m4 ea_m5), (wAr y (a 6) 205 stf), (wAr y (a 7) 205 kpf), (wAr y (a 8) 1230 hsf), (wAr y (a 9) 410 slf)].flatten H → va_D A [(wMo y a rc is_ pd pn ho eh mv at__m1 tk_m2 fs_m3 lt_m4 ea_m5), (wAr y (a 6) 205 stf), (wAr y (a 7) 205 kpf), (wAr y (a 8) 1230 hsf), (wAr y (a 9) 410 slf)].flatten → va_S A s.heap H locs → lv_has ls 1 [(0, .ref (a 0))] → W p l e R s m args below meth c H locs 0 0 Q (F0 m 40 ls []) := by
      intro at__m1 tk_m2 fs_m3 lt_m4 ea_m5 H locs ls h_ hP_ hD_ hS_ hl_
      unfold f_X5_findFault_X40 at h_
      refine lv_aload_n hx_ hb_ dX5_findFault_40 rfl (lv_at hl_ 0 rfl) ?_
      refine va_get (D := D) (ci := 5) (v := .int (jI at__m1)) (C := RX5) (T := TX5) (N := 16) hx_ hb_ hts_ hin_ hown_ hM_.1 hP_ 0 rfl rfl 11 (by decide) (hts_ (.fieldLink RX5 142 "MusicHolesModel" "at" "I") (by decide +kernel)) (fun _ h9_ => h9_) rfl dX5_findFault_41 ?_
      exact hE_ _ _ _ _ _ _ _ _ _ _ h_ dX5_findFault_44 hP_ hD_ hS_
    have hL5 : ∀ n5 : Nat, ∀ (at__m6 : Int) (tk_m7 : Int) (fs_m8 : Int) (lt_m9 : Int) (ea_m10 : Int) (H : Heap) (locs : List Loc) (ls : Array Slot), f_X5_findFault_L5 fu pd pn (f_X5_findFault_X40 fu) n5 at__m6 tk_m7 fs_m8 lt_m9 ea_m10 = some (rr, q_at_, q_tk, q_fs, q_lt, q_ea) → va_P D vwCl [(wMo y a rc is_ pd pn ho eh mv at__m6 tk_m7 fs_m8 lt_m9 ea_m10), (wAr y (a 6) 205 stf), (wAr y (a 7) 205 kpf), (wAr y (a 8) 1230 hsf), (wAr y (a 9) 410 slf)].flatten H → va_D A [(wMo y a rc is_ pd pn ho eh mv at__m6 tk_m7 fs_m8 lt_m9 ea_m10), (wAr y (a 6) 205 stf), (wAr y (a 7) 205 kpf), (wAr y (a 8) 1230 hsf), (wAr y (a 9) 410 slf)].flatten → va_S A s.heap H locs → lv_has ls 1 [(0, .ref (a 0))] → W p l e R s m args below meth c H locs 0 0 Q (F0 m 5 ls []) := by
      intro n5
      induction n5 with
      | zero => intro _ _ _ _ _ H locs ls h_; have h_ : (none : Option (Int × Int × Int × Int × Int × Int)) = some (rr, q_at_, q_tk, q_fs, q_lt, q_ea) := h_; cases h_
      | succ n5 ih5 =>
        intro at__m6 tk_m7 fs_m8 lt_m9 ea_m10 H locs ls h_ hP_ hD_ hS_ hl_
        replace h_ : f_X5_findFault_L5_b fu pd pn (f_X5_findFault_X40 fu) (f_X5_findFault_L5 fu pd pn (f_X5_findFault_X40 fu) n5) at__m6 tk_m7 fs_m8 lt_m9 ea_m10 = some (rr, q_at_, q_tk, q_fs, q_lt, q_ea) := h_
        unfold f_X5_findFault_L5_b at h_
        refine lv_aload_n hx_ hb_ dX5_findFault_5 rfl (lv_at hl_ 0 rfl) ?_
        obtain ⟨v11, at__m12, tk_m13, fs_m14, lt_m15, ea_m16, hv11, h_⟩ := jb6_i h_
        refine jx_cvi (wr := []) (cw := [(wMo y a rc is_ pd pn ho eh mv at__m6 tk_m7 fs_m8 lt_m9 ea_m10), (wAr y (a 6) 205 stf), (wAr y (a 7) 205 kpf), (wAr y (a 8) 1230 hsf), (wAr y (a 9) 410 slf)]) (cw1 := [(wMo y a rc is_ pd pn ho eh mv at__m12 tk_m13 fs_m14 lt_m15 ea_m16), (wAr y (a 6) 205 stf), (wAr y (a 7) 205 kpf), (wAr y (a 8) 1230 hsf), (wAr y (a 9) 410 slf)]) (cs1 := [(wMo y a rc is_ pd pn ho eh mv at__m12 tk_m13 fs_m14 lt_m15 ea_m16), (wAr y (a 6) 205 stf), (wAr y (a 7) 205 kpf), (wAr y (a 8) 1230 hsf), (wAr y (a 9) 410 slf)]) (As := []) (rest := []) ⟨hx_, hb_, hml_, hown_, hts_⟩ hM_ hP_ hD_ hS_ hA_ (List.Perm.refl _) (List.Perm.refl _) (c_X5_readsNote l D y z a rc is_ pd pn ho eh mv at__m6 tk_m7 fs_m8 lt_m9 ea_m10 stf kpf hsf slf fu v11 at__m12 tk_m13 fs_m14 lt_m15 ea_m16 hv11) 0 gX5_findFault_X5_readsNote rfl ⟨rfl, rfl⟩ (by decide +kernel) ⟨by rw [hR_]; exact Nat.le_of_ble_eq_true rfl, by rw [hR_]; exact Nat.le_of_ble_eq_true rfl⟩ 0 5 rfl rfl rfl rfl rfl hl_.1 (Nat.le_of_ble_eq_true rfl) dX5_findFault_6 ⟨Nat.zero_le _, Nat.zero_le _⟩ (fun H locs hP_ hD_ hS_ => ?_)
        refine jx_if_ne (tgt := 17) hx_ hb_ h_ dX5_findFault_9 (by decide) (fun h_ => ?_) (fun h_ => ?_)
        · refine lv_aload_n hx_ hb_ dX5_findFault_17 rfl (lv_at hl_ 0 rfl) ?_
          refine va_get (D := D) (ci := 5) (v := .int (jI at__m12)) (C := RX5) (T := TX5) (N := 16) hx_ hb_ hts_ hin_ hown_ hM_.1 hP_ 0 rfl rfl 11 (by decide) (hts_ (.fieldLink RX5 142 "MusicHolesModel" "at" "I") (by decide +kernel)) (fun _ h9_ => h9_) rfl dX5_findFault_18 ?_
          refine lv_aload_n hx_ hb_ dX5_findFault_21 rfl (lv_at hl_ 0 rfl) ?_
          refine va_get (D := D) (ci := 5) (v := .int (jI pn)) (C := RX5) (T := TX5) (N := 16) hx_ hb_ hts_ hin_ hown_ hM_.1 hP_ 0 rfl rfl 7 (by decide) (hts_ (.fieldLink RX5 145 "MusicHolesModel" "padLength" "I") (by decide +kernel)) (fun _ h9_ => h9_) rfl dX5_findFault_22 ?_
          refine jx_icmp_ne (tgt := 31) hx_ hb_ h_ dX5_findFault_25 (by decide) (fun h_ => ?_) (fun h_ => ?_)
          · refine lv_aload_n hx_ hb_ dX5_findFault_31 rfl (lv_at hl_ 0 rfl) ?_
            refine lv_bipush (v := jI 59) hx_ hb_ dX5_findFault_32 (by decide +kernel) ?_
            obtain ⟨v17, at__m18, hv17, h_⟩ := jb2_i h_
            refine jx_cvi (wr := []) (cw := [(wMo y a rc is_ pd pn ho eh mv at__m12 tk_m13 fs_m14 lt_m15 ea_m16), (wAr y (a 6) 205 stf), (wAr y (a 7) 205 kpf), (wAr y (a 8) 1230 hsf), (wAr y (a 9) 410 slf)]) (cw1 := [(wMo y a rc is_ pd pn ho eh mv at__m18 tk_m13 fs_m14 lt_m15 ea_m16), (wAr y (a 6) 205 stf), (wAr y (a 7) 205 kpf), (wAr y (a 8) 1230 hsf), (wAr y (a 9) 410 slf)]) (cs1 := [(wMo y a rc is_ pd pn ho eh mv at__m18 tk_m13 fs_m14 lt_m15 ea_m16), (wAr y (a 6) 205 stf), (wAr y (a 7) 205 kpf), (wAr y (a 8) 1230 hsf), (wAr y (a 9) 410 slf)]) (As := [.int (jI 59)]) (rest := []) ⟨hx_, hb_, hml_, hown_, hts_⟩ hM_ hP_ hD_ hS_ hA_ (List.Perm.refl _) (List.Perm.refl _) (c_X5_isNext l D y z a rc is_ pd pn ho eh mv at__m12 tk_m13 fs_m14 lt_m15 ea_m16 stf kpf hsf slf 59 fu v17 at__m18 hv17) 1 gX5_findFault_X5_isNext rfl ⟨rfl, rfl⟩ (by decide +kernel) ⟨by rw [hR_]; exact Nat.le_of_ble_eq_true rfl, by rw [hR_]; exact Nat.le_of_ble_eq_true rfl⟩ 0 5 rfl rfl rfl rfl rfl hl_.1 (Nat.le_of_ble_eq_true rfl) dX5_findFault_34 ⟨Nat.zero_le _, Nat.zero_le _⟩ (fun H locs hP_ hD_ hS_ => ?_)
            refine jx_if_ne (tgt := 5) hx_ hb_ h_ dX5_findFault_37 (by decide) (fun h_ => ?_) (fun h_ => ?_)
            · exact ih5 _ _ _ _ _ _ _ ls h_ hP_ hD_ hS_ (lv_sub hl_ [0] rfl)
            · exact hX40 _ _ _ _ _ _ _ ls h_ hP_ hD_ hS_ (lv_sub hl_ [0] rfl)
          · refine lv_bipush (v := jI (-6)) hx_ hb_ dX5_findFault_28 (by decide +kernel) ?_
            exact hE_ _ _ _ _ _ _ _ _ _ _ h_ dX5_findFault_30 hP_ hD_ hS_
        · refine lv_aload_n hx_ hb_ dX5_findFault_12 rfl (lv_at hl_ 0 rfl) ?_
          refine va_get (D := D) (ci := 5) (v := .int (jI at__m12)) (C := RX5) (T := TX5) (N := 16) hx_ hb_ hts_ hin_ hown_ hM_.1 hP_ 0 rfl rfl 11 (by decide) (hts_ (.fieldLink RX5 142 "MusicHolesModel" "at" "I") (by decide +kernel)) (fun _ h9_ => h9_) rfl dX5_findFault_13 ?_
          exact hE_ _ _ _ _ _ _ _ _ _ _ h_ dX5_findFault_16 hP_ hD_ hS_
    exact hL5 fu _ _ _ _ _ _ _ ls h_ hP_ hD_ hS_ (lv_sub hl_ [0] rfl)
  exact key_ _ (fun v9 at_9 tk9 fs9 lt9 ea9 H locs pc ls h9_ hdg_ hP_ hD_ hS_ => by cases h9_; exact jend_i hx_ hb_ hr_ hlocks_ hP_ hD_ hS_ hdg_)
def rm_X5_read : Room := { frames := 4, cells := 0, slots := 0, locals := 95 }
set_option maxRecDepth 100000 in
set_option maxHeartbeats 8000000 in
theorem c_X5_read (l : Launch) (D : va_G) (y : Nat → ClassId) (z : Nat → Nat) (a : Nat → Nat) (rc : Int) (is_ : Int → Int) (pd : Int → Int) (pn : Int) (ho : Int → Int) (eh : Int → Int) (mv : Int → Int) (at_ : Int) (tk : Int) (fs : Int) (lt : Int) (ea : Int) (stf : Int → Int) (kpf : Int → Int) (hsf : Int → Int) (slf : Int → Int)  (fu : Nat) (rr : Int) (q_rc : Int) (q_pn : Int) (q_at_ : Int) (q_tk : Int) (q_fs : Int) (q_lt : Int) (q_ea : Int) (q_stf : Int → Int) (q_kpf : Int → Int) (q_hsf : Int → Int) (h_ : f_X5_read fu rc pd pn at_ tk fs lt ea stf kpf hsf = some (rr, q_rc, q_pn, q_at_, q_tk, q_fs, q_lt, q_ea, q_stf, q_kpf, q_hsf)) : jCI l D y z yX5_read wsX5_read rm_X5_read [.ref (a 0)] [(wMo y a rc is_ pd pn ho eh mv at_ tk fs lt ea), (wAr y (a 6) 205 stf), (wAr y (a 7) 205 kpf), (wAr y (a 8) 1230 hsf), (wAr y (a 9) 410 slf)] [(wMo y a q_rc is_ pd q_pn ho eh mv q_at_ q_tk q_fs q_lt q_ea), (wAr y (a 6) 205 q_stf), (wAr y (a 7) 205 q_kpf), (wAr y (a 8) 1230 q_hsf), (wAr y (a 9) 410 slf)] rr := by
  intro sz
  refine jmet (Qc := (fun A => va_Qi (fun v (_ : Unit) => v = jI rr) (jB D A [(wMo y a q_rc is_ pd q_pn ho eh mv q_at_ q_tk q_fs q_lt q_ea), (wAr y (a 6) 205 q_stf), (wAr y (a 7) 205 q_kpf), (wAr y (a 8) 1230 q_hsf), (wAr y (a 9) 410 slf)]) A)) (cc := cX5_read) (maxL := 2) (ret := (some .int)) (own := RX5) (by decide) rfl (Nat.le_of_ble_eq_true rfl) rfl (fun p e s m R args below meth c A ls hR_ hargs_ hx_ hb_ hr_ hlocks_ hml_ hown_ hts_ hname_ hsz_ hP_ hD_ hA_ hM_ hl_ => ?_)
  have key_ : ∀ Q : State → Prop, (∀ (v9 : Int) (rc9 : Int) (pn9 : Int) (at_9 : Int) (tk9 : Int) (fs9 : Int) (lt9 : Int) (ea9 : Int) (stf9 : Int → Int) (kpf9 : Int → Int) (hsf9 : Int → Int) (H : Heap) (locs : List Loc) (pc : Nat) (ls : Array Slot), some (v9, rc9, pn9, at_9, tk9, fs9, lt9, ea9, stf9, kpf9, hsf9) = some (rr, q_rc, q_pn, q_at_, q_tk, q_fs, q_lt, q_ea, q_stf, q_kpf, q_hsf) → decode cX5_read pc = .ok (.ireturn, 1) → va_P D vwCl [(wMo y a rc9 is_ pd pn9 ho eh mv at_9 tk9 fs9 lt9 ea9), (wAr y (a 6) 205 stf9), (wAr y (a 7) 205 kpf9), (wAr y (a 8) 1230 hsf9), (wAr y (a 9) 410 slf)].flatten H → va_D A [(wMo y a rc9 is_ pd pn9 ho eh mv at_9 tk9 fs9 lt9 ea9), (wAr y (a 6) 205 stf9), (wAr y (a 7) 205 kpf9), (wAr y (a 8) 1230 hsf9), (wAr y (a 9) 410 slf)].flatten → va_S A s.heap H locs → W p l e R s m args below meth c H locs 0 0 Q (F0 m pc ls [.int (jI v9)])) → W p l e R s m args below meth c s.heap [] 0 0 Q (F0 m 0 ls []) := by
    intro Q hE_
    have hS_ : va_S A s.heap s.heap [] := va_S.rf
    have hl_ : lv_has ls 2 [(0, .ref (a 0))] := hl_
    have hin_ : ∀ w ∈ u_ws RX5 TX5 16, w ∈ wsX5_read := by decide +kernel
    unfold f_X5_read at h_
    refine lv_aload_n hx_ hb_ dX5_read_0 rfl (lv_at hl_ 0 rfl) ?_
    obtain ⟨v1, at__m2, tk_m3, fs_m4, lt_m5, ea_m6, hv1, h_⟩ := jb6_i h_
    refine jx_cvi (wr := []) (cw := [(wMo y a rc is_ pd pn ho eh mv at_ tk fs lt ea), (wAr y (a 6) 205 stf), (wAr y (a 7) 205 kpf), (wAr y (a 8) 1230 hsf), (wAr y (a 9) 410 slf)]) (cw1 := [(wMo y a rc is_ pd pn ho eh mv at__m2 tk_m3 fs_m4 lt_m5 ea_m6), (wAr y (a 6) 205 stf), (wAr y (a 7) 205 kpf), (wAr y (a 8) 1230 hsf), (wAr y (a 9) 410 slf)]) (cs1 := [(wMo y a rc is_ pd pn ho eh mv at__m2 tk_m3 fs_m4 lt_m5 ea_m6), (wAr y (a 6) 205 stf), (wAr y (a 7) 205 kpf), (wAr y (a 8) 1230 hsf), (wAr y (a 9) 410 slf)]) (As := []) (rest := []) ⟨hx_, hb_, hml_, hown_, hts_⟩ hM_ hP_ hD_ hS_ hA_ (List.Perm.refl _) (List.Perm.refl _) (c_X5_findFault l D y z a rc is_ pd pn ho eh mv at_ tk fs lt ea stf kpf hsf slf fu v1 at__m2 tk_m3 fs_m4 lt_m5 ea_m6 hv1) 0 gX5_read_X5_findFault rfl ⟨rfl, rfl⟩ (by decide +kernel) ⟨by rw [hR_]; exact Nat.le_of_ble_eq_true rfl, by rw [hR_]; exact Nat.le_of_ble_eq_true rfl⟩ 0 5 rfl rfl rfl rfl rfl hl_.1 (Nat.le_of_ble_eq_true rfl) dX5_read_1 ⟨Nat.zero_le _, Nat.zero_le _⟩ (fun H locs hP_ hD_ hS_ => ?_)
    refine lv_bipush (v := jI (-6)) hx_ hb_ dX5_read_4 (by decide +kernel) ?_
    refine jx_icmp_eq (tgt := 12) hx_ hb_ h_ dX5_read_6 (by decide) (fun h_ => ?_) (fun h_ => ?_)
    · refine lv_aload_n hx_ hb_ dX5_read_12 rfl (lv_at hl_ 0 rfl) ?_
      refine lv_iconst (v := jI 0) hx_ hb_ dX5_read_13 (by decide +kernel) ?_
      obtain ⟨v7, at__m8, tk_m9, fs_m10, lt_m11, ea_m12, stf_m13, hv7, h_⟩ := jb7_i h_
      refine jx_cvi (wr := []) (cw := [(wMo y a rc is_ pd pn ho eh mv at__m2 tk_m3 fs_m4 lt_m5 ea_m6), (wAr y (a 6) 205 stf), (wAr y (a 7) 205 kpf), (wAr y (a 8) 1230 hsf), (wAr y (a 9) 410 slf)]) (cw1 := [(wMo y a rc is_ pd pn ho eh mv at__m8 tk_m9 fs_m10 lt_m11 ea_m12), (wAr y (a 6) 205 stf_m13), (wAr y (a 7) 205 kpf), (wAr y (a 8) 1230 hsf), (wAr y (a 9) 410 slf)]) (cs1 := [(wMo y a rc is_ pd pn ho eh mv at__m8 tk_m9 fs_m10 lt_m11 ea_m12), (wAr y (a 6) 205 stf_m13), (wAr y (a 7) 205 kpf), (wAr y (a 8) 1230 hsf), (wAr y (a 9) 410 slf)]) (As := [.int (jI 0)]) (rest := []) ⟨hx_, hb_, hml_, hown_, hts_⟩ hM_ hP_ hD_ hS_ hA_ (List.Perm.refl _) (List.Perm.refl _) (c_X5_wrongInPad l D y z a rc is_ pd pn ho eh mv at__m2 tk_m3 fs_m4 lt_m5 ea_m6 stf kpf hsf slf 0 fu v7 at__m8 tk_m9 fs_m10 lt_m11 ea_m12 stf_m13 hv7) 1 gX5_read_X5_wrongInPad rfl ⟨rfl, rfl⟩ (by decide +kernel) ⟨by rw [hR_]; exact Nat.le_of_ble_eq_true rfl, by rw [hR_]; exact Nat.le_of_ble_eq_true rfl⟩ 0 5 rfl rfl rfl rfl rfl hl_.1 (Nat.le_of_ble_eq_true rfl) dX5_read_14 ⟨Nat.zero_le _, Nat.zero_le _⟩ (fun H locs hP_ hD_ hS_ => ?_)
      refine jx_if_le (tgt := 23) hx_ hb_ h_ dX5_read_17 (by decide) (fun h_ => ?_) (fun h_ => ?_)
      · refine lv_aload_n hx_ hb_ dX5_read_23 rfl (lv_at hl_ 0 rfl) ?_
        refine va_get (D := D) (ci := 5) (v := .ref (a 6)) (C := RX5) (T := TX5) (N := 16) hx_ hb_ hts_ hin_ hown_ hM_.1 hP_ 0 rfl rfl 0 (by decide) (hts_ (.fieldLink RX5 7 "MusicHolesModel" "state" "[I") (by decide +kernel)) (fun _ h9_ => h9_) rfl dX5_read_24 ?_
        refine lv_iconst (v := jI 4) hx_ hb_ dX5_read_27 (by decide +kernel) ?_
        refine jx_iald hx_ hb_ hM_ hP_ 6 0 rfl rfl rfl (Nat.le_of_ble_eq_true rfl) h_ dX5_read_28 (fun h_ => ?_)
        refine lv_aload_n hx_ hb_ dX5_read_29 rfl (lv_at hl_ 0 rfl) ?_
        obtain ⟨v14, hv14, h_⟩ := jb_i h_
        refine jx_cvi (wr := []) (cw := [(wMo y a rc is_ pd pn ho eh mv at__m8 tk_m9 fs_m10 lt_m11 ea_m12), (wAr y (a 6) 205 stf_m13), (wAr y (a 7) 205 kpf), (wAr y (a 8) 1230 hsf), (wAr y (a 9) 410 slf)]) (cw1 := [(wMo y a rc is_ pd pn ho eh mv at__m8 tk_m9 fs_m10 lt_m11 ea_m12), (wAr y (a 6) 205 stf_m13), (wAr y (a 7) 205 kpf), (wAr y (a 8) 1230 hsf), (wAr y (a 9) 410 slf)]) (cs1 := [(wMo y a rc is_ pd pn ho eh mv at__m8 tk_m9 fs_m10 lt_m11 ea_m12), (wAr y (a 6) 205 stf_m13), (wAr y (a 7) 205 kpf), (wAr y (a 8) 1230 hsf), (wAr y (a 9) 410 slf)]) (As := []) (rest := [.int (jI (stf_m13 4))]) ⟨hx_, hb_, hml_, hown_, hts_⟩ hM_ hP_ hD_ hS_ hA_ (List.Perm.refl _) (List.Perm.refl _) (c_X5_notesInPad l D y z a rc is_ pd pn ho eh mv at__m8 tk_m9 fs_m10 lt_m11 ea_m12 stf_m13 kpf hsf slf fu v14 hv14) 0 gX5_read_X5_notesInPad rfl ⟨rfl, rfl⟩ (by decide +kernel) ⟨by rw [hR_]; exact Nat.le_of_ble_eq_true rfl, by rw [hR_]; exact Nat.le_of_ble_eq_true rfl⟩ 0 5 rfl rfl rfl rfl rfl hl_.1 (Nat.le_of_ble_eq_true rfl) dX5_read_30 ⟨Nat.zero_le _, Nat.zero_le _⟩ (fun H locs hP_ hD_ hS_ => ?_)
        refine jx_iadd hx_ hb_ dX5_read_33 ?_
        refine lv_bipush (v := jI 40) hx_ hb_ dX5_read_34 (by decide +kernel) ?_
        refine jx_icmp_le (tgt := 42) hx_ hb_ h_ dX5_read_36 (by decide) (fun h_ => ?_) (fun h_ => ?_)
        · refine lv_aload_n hx_ hb_ dX5_read_42 rfl (lv_at hl_ 0 rfl) ?_
          refine va_get (D := D) (ci := 5) (v := .ref (a 6)) (C := RX5) (T := TX5) (N := 16) hx_ hb_ hts_ hin_ hown_ hM_.1 hP_ 0 rfl rfl 0 (by decide) (hts_ (.fieldLink RX5 7 "MusicHolesModel" "state" "[I") (by decide +kernel)) (fun _ h9_ => h9_) rfl dX5_read_43 ?_
          refine lv_iconst (v := jI 0) hx_ hb_ dX5_read_46 (by decide +kernel) ?_
          refine lv_aload_n hx_ hb_ dX5_read_47 rfl (lv_at hl_ 0 rfl) ?_
          refine va_get (D := D) (ci := 5) (v := .ref (a 7)) (C := RX5) (T := TX5) (N := 16) hx_ hb_ hts_ hin_ hown_ hM_.1 hP_ 0 rfl rfl 1 (by decide) (hts_ (.fieldLink RX5 13 "MusicHolesModel" "kept" "[I") (by decide +kernel)) (fun _ h9_ => h9_) rfl dX5_read_48 ?_
          refine lv_iconst (v := jI 0) hx_ hb_ dX5_read_51 (by decide +kernel) ?_
          obtain ⟨q2f_m15, hq2f_m15, h_⟩ := jb_i h_
          refine jx_csv (b := 0) (C := "") (rv := 0) (wr := [(wMo y a rc is_ pd pn ho eh mv at__m8 tk_m9 fs_m10 lt_m11 ea_m12), (wAr y (a 8) 1230 hsf), (wAr y (a 9) 410 slf)]) (cw := [(wAr y (a 6) 205 stf_m13), (wAr y (a 7) 205 kpf)]) (cw1 := [(wAr y (a 6) 205 stf_m13), (wAr y (a 7) 205 q2f_m15)]) (cs1 := [(wMo y a rc is_ pd pn ho eh mv at__m8 tk_m9 fs_m10 lt_m11 ea_m12), (wAr y (a 6) 205 stf_m13), (wAr y (a 7) 205 q2f_m15), (wAr y (a 8) 1230 hsf), (wAr y (a 9) 410 slf)]) (As := [.ref (a 6), .int (jI 0), .ref (a 7), .int (jI 0)]) (rest := []) ⟨hx_, hb_, hml_, hown_, hts_⟩ hM_ hP_ hD_ hS_ hA_ (jperm 5 [0, 3, 4, 1, 2] rfl (by decide) rfl) (jperm 5 [0, 3, 4, 1, 2] rfl (by decide) rfl) (c_X5_moves l D y z (a 6) (a 7) 205 (Nat.le_of_ble_eq_true rfl) 205 (Nat.le_of_ble_eq_true rfl) stf_m13 kpf 0 0 fu q2f_m15 hq2f_m15) 4 (va_cwS 4 hts_ gX5_read_X5_moves rfl rfl rfl (by decide +kernel) ⟨by rw [hR_]; exact Nat.le_of_ble_eq_true rfl, by rw [hR_]; exact Nat.le_of_ble_eq_true rfl⟩) rfl ⟨rfl, rfl⟩ ⟨by rw [hR_]; exact Nat.le_of_ble_eq_true rfl, by rw [hR_]; exact Nat.le_of_ble_eq_true rfl⟩ rfl rfl hl_.1 (Nat.le_of_ble_eq_true rfl) dX5_read_52 ⟨Nat.zero_le _, Nat.zero_le _⟩ (fun H locs hP_ hD_ hS_ => ?_)
          refine lv_aload_n hx_ hb_ dX5_read_55 rfl (lv_at hl_ 0 rfl) ?_
          refine lv_iconst (v := jI 1) hx_ hb_ dX5_read_56 (by decide +kernel) ?_
          obtain ⟨v16, at__m17, tk_m18, fs_m19, lt_m20, ea_m21, stf_m22, hv16, h_⟩ := jb7_i h_
          refine jx_cvi (wr := []) (cw := [(wMo y a rc is_ pd pn ho eh mv at__m8 tk_m9 fs_m10 lt_m11 ea_m12), (wAr y (a 6) 205 stf_m13), (wAr y (a 7) 205 q2f_m15), (wAr y (a 8) 1230 hsf), (wAr y (a 9) 410 slf)]) (cw1 := [(wMo y a rc is_ pd pn ho eh mv at__m17 tk_m18 fs_m19 lt_m20 ea_m21), (wAr y (a 6) 205 stf_m22), (wAr y (a 7) 205 q2f_m15), (wAr y (a 8) 1230 hsf), (wAr y (a 9) 410 slf)]) (cs1 := [(wMo y a rc is_ pd pn ho eh mv at__m17 tk_m18 fs_m19 lt_m20 ea_m21), (wAr y (a 6) 205 stf_m22), (wAr y (a 7) 205 q2f_m15), (wAr y (a 8) 1230 hsf), (wAr y (a 9) 410 slf)]) (As := [.int (jI 1)]) (rest := []) ⟨hx_, hb_, hml_, hown_, hts_⟩ hM_ hP_ hD_ hS_ hA_ (List.Perm.refl _) (List.Perm.refl _) (c_X5_wrongInPad l D y z a rc is_ pd pn ho eh mv at__m8 tk_m9 fs_m10 lt_m11 ea_m12 stf_m13 q2f_m15 hsf slf 1 fu v16 at__m17 tk_m18 fs_m19 lt_m20 ea_m21 stf_m22 hv16) 1 gX5_read_X5_wrongInPad rfl ⟨rfl, rfl⟩ (by decide +kernel) ⟨by rw [hR_]; exact Nat.le_of_ble_eq_true rfl, by rw [hR_]; exact Nat.le_of_ble_eq_true rfl⟩ 0 5 rfl rfl rfl rfl rfl hl_.1 (Nat.le_of_ble_eq_true rfl) dX5_read_57 ⟨Nat.zero_le _, Nat.zero_le _⟩ (fun H locs hP_ hD_ hS_ => ?_)
          have hJ68 : ∀ (v23 : Int) (H : Heap) (locs : List Loc) (ls : Array Slot), f_X5_read_J68 fu rc pd pn hsf at__m17 tk_m18 fs_m19 lt_m20 ea_m21 stf_m22 q2f_m15 v23 = some (rr, q_rc, q_pn, q_at_, q_tk, q_fs, q_lt, q_ea, q_stf, q_kpf, q_hsf) → va_P D vwCl [(wMo y a rc is_ pd pn ho eh mv at__m17 tk_m18 fs_m19 lt_m20 ea_m21), (wAr y (a 6) 205 stf_m22), (wAr y (a 7) 205 q2f_m15), (wAr y (a 8) 1230 hsf), (wAr y (a 9) 410 slf)].flatten H → va_D A [(wMo y a rc is_ pd pn ho eh mv at__m17 tk_m18 fs_m19 lt_m20 ea_m21), (wAr y (a 6) 205 stf_m22), (wAr y (a 7) 205 q2f_m15), (wAr y (a 8) 1230 hsf), (wAr y (a 9) 410 slf)].flatten → va_S A s.heap H locs → lv_has ls 2 [(0, .ref (a 0))] → W p l e R s m args below meth c H locs 0 0 Q (F0 m 68 ls [.int (jI v23)]) := by
            intro v23 H locs ls h_ hP_ hD_ hS_ hl_
            unfold f_X5_read_J68 at h_
            refine lv_istore_n (lv' := [(1, .int (jI v23)), (0, .ref (a 0))]) hx_ hb_ dX5_read_68 rfl hl_ (by decide) rfl (fun ls hl_ => ?_)
            refine lv_aload_n hx_ hb_ dX5_read_69 rfl (lv_at hl_ 1 rfl) ?_
            refine va_get (D := D) (ci := 5) (v := .ref (a 7)) (C := RX5) (T := TX5) (N := 16) hx_ hb_ hts_ hin_ hown_ hM_.1 hP_ 0 rfl rfl 1 (by decide) (hts_ (.fieldLink RX5 13 "MusicHolesModel" "kept" "[I") (by decide +kernel)) (fun _ h9_ => h9_) rfl dX5_read_70 ?_
            refine lv_iconst (v := jI 0) hx_ hb_ dX5_read_73 (by decide +kernel) ?_
            refine lv_aload_n hx_ hb_ dX5_read_74 rfl (lv_at hl_ 1 rfl) ?_
            refine va_get (D := D) (ci := 5) (v := .ref (a 6)) (C := RX5) (T := TX5) (N := 16) hx_ hb_ hts_ hin_ hown_ hM_.1 hP_ 0 rfl rfl 0 (by decide) (hts_ (.fieldLink RX5 7 "MusicHolesModel" "state" "[I") (by decide +kernel)) (fun _ h9_ => h9_) rfl dX5_read_75 ?_
            refine lv_iconst (v := jI 0) hx_ hb_ dX5_read_78 (by decide +kernel) ?_
            obtain ⟨q2f_m24, hq2f_m24, h_⟩ := jb_i h_
            refine jx_csv (b := 0) (C := "") (rv := 0) (wr := [(wMo y a rc is_ pd pn ho eh mv at__m17 tk_m18 fs_m19 lt_m20 ea_m21), (wAr y (a 8) 1230 hsf), (wAr y (a 9) 410 slf)]) (cw := [(wAr y (a 7) 205 q2f_m15), (wAr y (a 6) 205 stf_m22)]) (cw1 := [(wAr y (a 7) 205 q2f_m15), (wAr y (a 6) 205 q2f_m24)]) (cs1 := [(wMo y a rc is_ pd pn ho eh mv at__m17 tk_m18 fs_m19 lt_m20 ea_m21), (wAr y (a 6) 205 q2f_m24), (wAr y (a 7) 205 q2f_m15), (wAr y (a 8) 1230 hsf), (wAr y (a 9) 410 slf)]) (As := [.ref (a 7), .int (jI 0), .ref (a 6), .int (jI 0)]) (rest := []) ⟨hx_, hb_, hml_, hown_, hts_⟩ hM_ hP_ hD_ hS_ hA_ (jperm 5 [0, 3, 4, 2, 1] rfl (by decide) rfl) (jperm 5 [0, 4, 3, 1, 2] rfl (by decide) rfl) (c_X5_moves l D y z (a 7) (a 6) 205 (Nat.le_of_ble_eq_true rfl) 205 (Nat.le_of_ble_eq_true rfl) q2f_m15 stf_m22 0 0 fu q2f_m24 hq2f_m24) 4 (va_cwS 4 hts_ gX5_read_X5_moves rfl rfl rfl (by decide +kernel) ⟨by rw [hR_]; exact Nat.le_of_ble_eq_true rfl, by rw [hR_]; exact Nat.le_of_ble_eq_true rfl⟩) rfl ⟨rfl, rfl⟩ ⟨by rw [hR_]; exact Nat.le_of_ble_eq_true rfl, by rw [hR_]; exact Nat.le_of_ble_eq_true rfl⟩ rfl rfl hl_.1 (Nat.le_of_ble_eq_true rfl) dX5_read_79 ⟨Nat.zero_le _, Nat.zero_le _⟩ (fun H locs hP_ hD_ hS_ => ?_)
            refine lv_iload_n hx_ hb_ dX5_read_82 rfl (lv_at hl_ 0 rfl) ?_
            refine jx_if_ne (tgt := 89) hx_ hb_ h_ dX5_read_83 (by decide) (fun h_ => ?_) (fun h_ => ?_)
            · refine lv_aload_n hx_ hb_ dX5_read_89 rfl (lv_at hl_ 1 rfl) ?_
              obtain ⟨rc_m25, hsf_m26, hrc_m25, h_⟩ := jb2_i h_
              refine jx_cvv (rv := 0) (wr := []) (cw := [(wMo y a rc is_ pd pn ho eh mv at__m17 tk_m18 fs_m19 lt_m20 ea_m21), (wAr y (a 6) 205 q2f_m24), (wAr y (a 7) 205 q2f_m15), (wAr y (a 8) 1230 hsf), (wAr y (a 9) 410 slf)]) (cw1 := [(wMo y a rc_m25 is_ pd pn ho eh mv at__m17 tk_m18 fs_m19 lt_m20 ea_m21), (wAr y (a 6) 205 q2f_m24), (wAr y (a 7) 205 q2f_m15), (wAr y (a 8) 1230 hsf_m26), (wAr y (a 9) 410 slf)]) (cs1 := [(wMo y a rc_m25 is_ pd pn ho eh mv at__m17 tk_m18 fs_m19 lt_m20 ea_m21), (wAr y (a 6) 205 q2f_m24), (wAr y (a 7) 205 q2f_m15), (wAr y (a 8) 1230 hsf_m26), (wAr y (a 9) 410 slf)]) (As := []) (rest := []) ⟨hx_, hb_, hml_, hown_, hts_⟩ hM_ hP_ hD_ hS_ hA_ (List.Perm.refl _) (List.Perm.refl _) (c_X5_record l D y z a rc is_ pd pn ho eh mv at__m17 tk_m18 fs_m19 lt_m20 ea_m21 q2f_m24 q2f_m15 hsf slf fu rc_m25 hsf_m26 hrc_m25) 0 gX5_read_X5_record rfl ⟨rfl, rfl⟩ (by decide +kernel) ⟨by rw [hR_]; exact Nat.le_of_ble_eq_true rfl, by rw [hR_]; exact Nat.le_of_ble_eq_true rfl⟩ 0 5 rfl rfl rfl rfl rfl hl_.1 (Nat.le_of_ble_eq_true rfl) dX5_read_90 ⟨Nat.zero_le _, Nat.zero_le _⟩ (fun H locs hP_ hD_ hS_ => ?_)
              refine lv_aload_n hx_ hb_ dX5_read_93 rfl (lv_at hl_ 1 rfl) ?_
              refine lv_iconst (v := jI 1) hx_ hb_ dX5_read_94 (by decide +kernel) ?_
              obtain ⟨v27, at__m28, tk_m29, fs_m30, lt_m31, ea_m32, stf_m33, hv27, h_⟩ := jb7_i h_
              refine jx_cvi (wr := []) (cw := [(wMo y a rc_m25 is_ pd pn ho eh mv at__m17 tk_m18 fs_m19 lt_m20 ea_m21), (wAr y (a 6) 205 q2f_m24), (wAr y (a 7) 205 q2f_m15), (wAr y (a 8) 1230 hsf_m26), (wAr y (a 9) 410 slf)]) (cw1 := [(wMo y a rc_m25 is_ pd pn ho eh mv at__m28 tk_m29 fs_m30 lt_m31 ea_m32), (wAr y (a 6) 205 stf_m33), (wAr y (a 7) 205 q2f_m15), (wAr y (a 8) 1230 hsf_m26), (wAr y (a 9) 410 slf)]) (cs1 := [(wMo y a rc_m25 is_ pd pn ho eh mv at__m28 tk_m29 fs_m30 lt_m31 ea_m32), (wAr y (a 6) 205 stf_m33), (wAr y (a 7) 205 q2f_m15), (wAr y (a 8) 1230 hsf_m26), (wAr y (a 9) 410 slf)]) (As := [.int (jI 1)]) (rest := []) ⟨hx_, hb_, hml_, hown_, hts_⟩ hM_ hP_ hD_ hS_ hA_ (List.Perm.refl _) (List.Perm.refl _) (c_X5_wrongInPad l D y z a rc_m25 is_ pd pn ho eh mv at__m17 tk_m18 fs_m19 lt_m20 ea_m21 q2f_m24 q2f_m15 hsf_m26 slf 1 fu v27 at__m28 tk_m29 fs_m30 lt_m31 ea_m32 stf_m33 hv27) 1 gX5_read_X5_wrongInPad rfl ⟨rfl, rfl⟩ (by decide +kernel) ⟨by rw [hR_]; exact Nat.le_of_ble_eq_true rfl, by rw [hR_]; exact Nat.le_of_ble_eq_true rfl⟩ 0 5 rfl rfl rfl rfl rfl hl_.1 (Nat.le_of_ble_eq_true rfl) dX5_read_95 ⟨Nat.zero_le _, Nat.zero_le _⟩ (fun H locs hP_ hD_ hS_ => ?_)
              refine lv_pop hx_ hb_ dX5_read_98 rfl ?_
              refine lv_aload_n hx_ hb_ dX5_read_99 rfl (lv_at hl_ 1 rfl) ?_
              refine lv_iconst (v := jI 0) hx_ hb_ dX5_read_100 (by decide +kernel) ?_
              refine va_put (D := D) (ci := 5) (v := .int (jI 0)) (ty := .int) (C := RX5) (T := TX5) (N := 16) hx_ hb_ hts_ hin_ tyX5 tyX5_ok nmX5 hown_ hM_.1 hP_ hD_ hS_ 0 rfl rfl 7 (by decide) (hts_ (.fieldLink RX5 145 "MusicHolesModel" "padLength" "I") (by decide +kernel)) (fun _ h9_ => h9_) rfl (by decide +kernel) rfl rfl (Nat.le_of_ble_eq_true rfl) dX5_read_101 (fun H locs hP_ hD_ hS_ => ?_)
              have hP_ : va_P D vwCl [(wMo y a rc_m25 is_ pd 0 ho eh mv at__m28 tk_m29 fs_m30 lt_m31 ea_m32), (wAr y (a 6) 205 stf_m33), (wAr y (a 7) 205 q2f_m15), (wAr y (a 8) 1230 hsf_m26), (wAr y (a 9) 410 slf)].flatten H := hP_
              have hD_ : va_D A [(wMo y a rc_m25 is_ pd 0 ho eh mv at__m28 tk_m29 fs_m30 lt_m31 ea_m32), (wAr y (a 6) 205 stf_m33), (wAr y (a 7) 205 q2f_m15), (wAr y (a 8) 1230 hsf_m26), (wAr y (a 9) 410 slf)].flatten := hD_
              refine lv_aload_n hx_ hb_ dX5_read_104 rfl (lv_at hl_ 1 rfl) ?_
              refine va_get (D := D) (ci := 5) (v := .ref (a 6)) (C := RX5) (T := TX5) (N := 16) hx_ hb_ hts_ hin_ hown_ hM_.1 hP_ 0 rfl rfl 0 (by decide) (hts_ (.fieldLink RX5 7 "MusicHolesModel" "state" "[I") (by decide +kernel)) (fun _ h9_ => h9_) rfl dX5_read_105 ?_
              refine lv_iconst (v := jI 4) hx_ hb_ dX5_read_108 (by decide +kernel) ?_
              refine jx_iald hx_ hb_ hM_ hP_ 6 0 rfl rfl rfl (Nat.le_of_ble_eq_true rfl) h_ dX5_read_109 (fun h_ => ?_)
              exact hE_ _ _ _ _ _ _ _ _ _ _ _ _ _ _ _ h_ dX5_read_110 hP_ hD_ hS_
            · refine lv_bipush (v := jI (-5)) hx_ hb_ dX5_read_86 (by decide +kernel) ?_
              exact hE_ _ _ _ _ _ _ _ _ _ _ _ _ _ _ _ h_ dX5_read_88 hP_ hD_ hS_
          refine jx_if_ne (tgt := 67) hx_ hb_ h_ dX5_read_60 (by decide) (fun h_ => ?_) (fun h_ => ?_)
          · refine lv_iconst (v := jI 0) hx_ hb_ dX5_read_67 (by decide +kernel) ?_
            exact hJ68 _ _ _ ls h_ hP_ hD_ hS_ (lv_sub hl_ [0] rfl)
          · refine lv_iconst (v := jI 1) hx_ hb_ dX5_read_63 (by decide +kernel) ?_
            refine lv_goto (tgt := 68) hx_ hb_ dX5_read_64 (by decide) ?_
            exact hJ68 _ _ _ ls h_ hP_ hD_ hS_ (lv_sub hl_ [0] rfl)
        · refine lv_bipush (v := jI (-4)) hx_ hb_ dX5_read_39 (by decide +kernel) ?_
          exact hE_ _ _ _ _ _ _ _ _ _ _ _ _ _ _ _ h_ dX5_read_41 hP_ hD_ hS_
      · refine lv_bipush (v := jI (-2)) hx_ hb_ dX5_read_20 (by decide +kernel) ?_
        exact hE_ _ _ _ _ _ _ _ _ _ _ _ _ _ _ _ h_ dX5_read_22 hP_ hD_ hS_
    · refine lv_bipush (v := jI (-3)) hx_ hb_ dX5_read_9 (by decide +kernel) ?_
      exact hE_ _ _ _ _ _ _ _ _ _ _ _ _ _ _ _ h_ dX5_read_11 hP_ hD_ hS_
  exact key_ _ (fun v9 rc9 pn9 at_9 tk9 fs9 lt9 ea9 stf9 kpf9 hsf9 H locs pc ls h9_ hdg_ hP_ hD_ hS_ => by cases h9_; exact jend_i hx_ hb_ hr_ hlocks_ hP_ hD_ hS_ hdg_)
def rm_X5_bridges : Room := { frames := 2, cells := 0, slots := 0, locals := 45 }
set_option maxRecDepth 100000 in
set_option maxHeartbeats 8000000 in
theorem c_X5_bridges (l : Launch) (D : va_G) (y : Nat → ClassId) (z : Nat → Nat) (a : Nat → Nat) (rc : Int) (is_ : Int → Int) (pd : Int → Int) (pn : Int) (ho : Int → Int) (eh : Int → Int) (mv : Int → Int) (at_ : Int) (tk : Int) (fs : Int) (lt : Int) (ea : Int) (stf : Int → Int) (kpf : Int → Int) (hsf : Int → Int) (slf : Int → Int) (x1 : Int) (x2 : Int) (fu : Nat) (rr : Int) (h_ : f_X5_bridges fu stf x1 x2 = some rr) : jCI l D y z yX5_bridges wsX5_bridges rm_X5_bridges [.ref (a 0), .int (jI x1), .int (jI x2)] [(wMo y a rc is_ pd pn ho eh mv at_ tk fs lt ea), (wAr y (a 6) 205 stf), (wAr y (a 7) 205 kpf), (wAr y (a 8) 1230 hsf), (wAr y (a 9) 410 slf)] [(wMo y a rc is_ pd pn ho eh mv at_ tk fs lt ea), (wAr y (a 6) 205 stf), (wAr y (a 7) 205 kpf), (wAr y (a 8) 1230 hsf), (wAr y (a 9) 410 slf)] rr := by
  intro sz
  refine jmet (Qc := (fun A => va_Qi (fun v (_ : Unit) => v = jI rr) (jB D A [(wMo y a rc is_ pd pn ho eh mv at_ tk fs lt ea), (wAr y (a 6) 205 stf), (wAr y (a 7) 205 kpf), (wAr y (a 8) 1230 hsf), (wAr y (a 9) 410 slf)]) A)) (cc := cX5_bridges) (maxL := 7) (ret := (some .int)) (own := RX5) (by decide) rfl (Nat.le_of_ble_eq_true rfl) rfl (fun p e s m R args below meth c A ls hR_ hargs_ hx_ hb_ hr_ hlocks_ hml_ hown_ hts_ hname_ hsz_ hP_ hD_ hA_ hM_ hl_ => ?_)
  have key_ : ∀ Q : State → Prop, (∀ (v9 : Int) (H : Heap) (locs : List Loc) (pc : Nat) (ls : Array Slot), some v9 = some rr → decode cX5_bridges pc = .ok (.ireturn, 1) → va_P D vwCl [(wMo y a rc is_ pd pn ho eh mv at_ tk fs lt ea), (wAr y (a 6) 205 stf), (wAr y (a 7) 205 kpf), (wAr y (a 8) 1230 hsf), (wAr y (a 9) 410 slf)].flatten H → va_D A [(wMo y a rc is_ pd pn ho eh mv at_ tk fs lt ea), (wAr y (a 6) 205 stf), (wAr y (a 7) 205 kpf), (wAr y (a 8) 1230 hsf), (wAr y (a 9) 410 slf)].flatten → va_S A s.heap H locs → W p l e R s m args below meth c H locs 0 0 Q (F0 m pc ls [.int (jI v9)])) → W p l e R s m args below meth c s.heap [] 0 0 Q (F0 m 0 ls []) := by
    intro Q hE_
    have hS_ : va_S A s.heap s.heap [] := va_S.rf
    have hl_ : lv_has ls 7 [(0, .ref (a 0)), (1, .int (jI x1)), (2, .int (jI x2))] := hl_
    have hin_ : ∀ w ∈ u_ws RX5 TX5 16, w ∈ wsX5_bridges := by decide +kernel
    unfold f_X5_bridges at h_
    refine lv_iconst (v := jI 0) hx_ hb_ dX5_bridges_0 (by decide +kernel) ?_
    refine lv_istore_n (lv' := [(3, .int (jI 0)), (0, .ref (a 0)), (1, .int (jI x1)), (2, .int (jI x2))]) hx_ hb_ dX5_bridges_1 rfl hl_ (by decide) rfl (fun ls hl_ => ?_)
    refine lv_iconst (v := jI 0) hx_ hb_ dX5_bridges_2 (by decide +kernel) ?_
    refine lv_istore (lv' := [(4, .int (jI 0)), (3, .int (jI 0)), (0, .ref (a 0)), (1, .int (jI x1)), (2, .int (jI x2))]) hx_ hb_ dX5_bridges_3 hl_ (by decide) rfl (fun ls hl_ => ?_)
    refine lv_iconst (v := jI 0) hx_ hb_ dX5_bridges_5 (by decide +kernel) ?_
    refine lv_istore (lv' := [(5, .int (jI 0)), (4, .int (jI 0)), (3, .int (jI 0)), (0, .ref (a 0)), (1, .int (jI x1)), (2, .int (jI x2))]) hx_ hb_ dX5_bridges_6 hl_ (by decide) rfl (fun ls hl_ => ?_)
    refine lv_aload_n hx_ hb_ dX5_bridges_8 rfl (lv_at hl_ 3 rfl) ?_
    refine lv_iload_n hx_ hb_ dX5_bridges_9 rfl (lv_at hl_ 4 rfl) ?_
    refine lv_iconst (v := jI 1) hx_ hb_ dX5_bridges_10 (by decide +kernel) ?_
    obtain ⟨v1, hv1, h_⟩ := jb_i h_
    refine jx_cvi (wr := []) (cw := [(wMo y a rc is_ pd pn ho eh mv at_ tk fs lt ea), (wAr y (a 6) 205 stf), (wAr y (a 7) 205 kpf), (wAr y (a 8) 1230 hsf), (wAr y (a 9) 410 slf)]) (cw1 := [(wMo y a rc is_ pd pn ho eh mv at_ tk fs lt ea), (wAr y (a 6) 205 stf), (wAr y (a 7) 205 kpf), (wAr y (a 8) 1230 hsf), (wAr y (a 9) 410 slf)]) (cs1 := [(wMo y a rc is_ pd pn ho eh mv at_ tk fs lt ea), (wAr y (a 6) 205 stf), (wAr y (a 7) 205 kpf), (wAr y (a 8) 1230 hsf), (wAr y (a 9) 410 slf)]) (As := [.int (jI x1), .int (jI 1)]) (rest := []) ⟨hx_, hb_, hml_, hown_, hts_⟩ hM_ hP_ hD_ hS_ hA_ (List.Perm.refl _) (List.Perm.refl _) (c_X5_part l D y z a rc is_ pd pn ho eh mv at_ tk fs lt ea stf kpf hsf slf x1 1 fu v1 hv1) 2 gX5_bridges_X5_part rfl ⟨rfl, rfl⟩ (by decide +kernel) ⟨by rw [hR_]; exact Nat.le_of_ble_eq_true rfl, by rw [hR_]; exact Nat.le_of_ble_eq_true rfl⟩ 0 5 rfl rfl rfl rfl rfl hl_.1 (Nat.le_of_ble_eq_true rfl) dX5_bridges_11 ⟨Nat.zero_le _, Nat.zero_le _⟩ (fun H locs hP_ hD_ hS_ => ?_)
    refine lv_istore (lv' := [(6, .int (jI v1)), (5, .int (jI 0)), (4, .int (jI 0)), (3, .int (jI 0)), (0, .ref (a 0)), (1, .int (jI x1)), (2, .int (jI x2))]) hx_ hb_ dX5_bridges_14 hl_ (by decide) rfl (fun ls hl_ => ?_)
    have hX87 : ∀ (v2 : Int) (v3 : Int) (H : Heap) (locs : List Loc) (ls : Array Slot), f_X5_bridges_X87 fu x2 v2 v3 = some rr → va_P D vwCl [(wMo y a rc is_ pd pn ho eh mv at_ tk fs lt ea), (wAr y (a 6) 205 stf), (wAr y (a 7) 205 kpf), (wAr y (a 8) 1230 hsf), (wAr y (a 9) 410 slf)].flatten H → va_D A [(wMo y a rc is_ pd pn ho eh mv at_ tk fs lt ea), (wAr y (a 6) 205 stf), (wAr y (a 7) 205 kpf), (wAr y (a 8) 1230 hsf), (wAr y (a 9) 410 slf)].flatten → va_S A s.heap H locs → lv_has ls 7 [(2, .int (jI x2)), (3, .int (jI v2)), (5, .int (jI v3))] → W p l e R s m args below meth c H locs 0 0 Q (F0 m 87 ls []) := by
      intro v2 v3 H locs ls h_ hP_ hD_ hS_ hl_
      unfold f_X5_bridges_X87 at h_
      refine lv_iload_n hx_ hb_ dX5_bridges_87 rfl (lv_at hl_ 0 rfl) ?_
      refine jx_if_eq (tgt := 96) hx_ hb_ h_ dX5_bridges_88 (by decide) (fun h_ => ?_) (fun h_ => ?_)
      · refine lv_iload_n hx_ hb_ dX5_bridges_96 rfl (lv_at hl_ 1 rfl) ?_
        exact hE_ _ _ _ _ _ h_ dX5_bridges_97 hP_ hD_ hS_
      · refine lv_iload hx_ hb_ dX5_bridges_91 (lv_at hl_ 2 rfl) ?_
        refine lv_goto (tgt := 97) hx_ hb_ dX5_bridges_93 (by decide) ?_
        exact hE_ _ _ _ _ _ h_ dX5_bridges_97 hP_ hD_ hS_
    have hL16 : ∀ n16 : Nat, ∀ (v4 : Int) (v5 : Int) (v6 : Int) (v7 : Int) (H : Heap) (locs : List Loc) (ls : Array Slot), f_X5_bridges_L16 fu stf x1 (f_X5_bridges_X87 fu x2) n16 v4 v5 v6 v7 = some rr → va_P D vwCl [(wMo y a rc is_ pd pn ho eh mv at_ tk fs lt ea), (wAr y (a 6) 205 stf), (wAr y (a 7) 205 kpf), (wAr y (a 8) 1230 hsf), (wAr y (a 9) 410 slf)].flatten H → va_D A [(wMo y a rc is_ pd pn ho eh mv at_ tk fs lt ea), (wAr y (a 6) 205 stf), (wAr y (a 7) 205 kpf), (wAr y (a 8) 1230 hsf), (wAr y (a 9) 410 slf)].flatten → va_S A s.heap H locs → lv_has ls 7 [(0, .ref (a 0)), (1, .int (jI x1)), (2, .int (jI x2)), (3, .int (jI v4)), (4, .int (jI v5)), (5, .int (jI v6)), (6, .int (jI v7))] → W p l e R s m args below meth c H locs 0 0 Q (F0 m 16 ls []) := by
      intro n16
      induction n16 with
      | zero => intro _ _ _ _ H locs ls h_; have h_ : (none : Option (Int)) = some rr := h_; cases h_
      | succ n16 ih16 =>
        intro v4 v5 v6 v7 H locs ls h_ hP_ hD_ hS_ hl_
        replace h_ : f_X5_bridges_L16_b fu stf x1 (f_X5_bridges_X87 fu x2) (f_X5_bridges_L16 fu stf x1 (f_X5_bridges_X87 fu x2) n16) v4 v5 v6 v7 = some rr := h_
        unfold f_X5_bridges_L16_b at h_
        refine lv_iload hx_ hb_ dX5_bridges_16 (lv_at hl_ 6 rfl) ?_
        refine lv_aload_n hx_ hb_ dX5_bridges_18 rfl (lv_at hl_ 0 rfl) ?_
        refine lv_iload_n hx_ hb_ dX5_bridges_19 rfl (lv_at hl_ 1 rfl) ?_
        refine lv_iconst (v := jI 2) hx_ hb_ dX5_bridges_20 (by decide +kernel) ?_
        obtain ⟨v8, hv8, h_⟩ := jb_i h_
        refine jx_cvi (wr := []) (cw := [(wMo y a rc is_ pd pn ho eh mv at_ tk fs lt ea), (wAr y (a 6) 205 stf), (wAr y (a 7) 205 kpf), (wAr y (a 8) 1230 hsf), (wAr y (a 9) 410 slf)]) (cw1 := [(wMo y a rc is_ pd pn ho eh mv at_ tk fs lt ea), (wAr y (a 6) 205 stf), (wAr y (a 7) 205 kpf), (wAr y (a 8) 1230 hsf), (wAr y (a 9) 410 slf)]) (cs1 := [(wMo y a rc is_ pd pn ho eh mv at_ tk fs lt ea), (wAr y (a 6) 205 stf), (wAr y (a 7) 205 kpf), (wAr y (a 8) 1230 hsf), (wAr y (a 9) 410 slf)]) (As := [.int (jI x1), .int (jI 2)]) (rest := [.int (jI v7)]) ⟨hx_, hb_, hml_, hown_, hts_⟩ hM_ hP_ hD_ hS_ hA_ (List.Perm.refl _) (List.Perm.refl _) (c_X5_part l D y z a rc is_ pd pn ho eh mv at_ tk fs lt ea stf kpf hsf slf x1 2 fu v8 hv8) 2 gX5_bridges_X5_part rfl ⟨rfl, rfl⟩ (by decide +kernel) ⟨by rw [hR_]; exact Nat.le_of_ble_eq_true rfl, by rw [hR_]; exact Nat.le_of_ble_eq_true rfl⟩ 0 5 rfl rfl rfl rfl rfl hl_.1 (Nat.le_of_ble_eq_true rfl) dX5_bridges_21 ⟨Nat.zero_le _, Nat.zero_le _⟩ (fun H locs hP_ hD_ hS_ => ?_)
        refine jx_icmp_gt (tgt := 87) hx_ hb_ h_ dX5_bridges_24 (by decide) (fun h_ => ?_) (fun h_ => ?_)
        · exact hX87 _ _ _ _ ls h_ hP_ hD_ hS_ (lv_sub hl_ [2, 3, 5] rfl)
        · refine lv_aload_n hx_ hb_ dX5_bridges_27 rfl (lv_at hl_ 0 rfl) ?_
          refine lv_iload_n hx_ hb_ dX5_bridges_28 rfl (lv_at hl_ 1 rfl) ?_
          refine lv_iload hx_ hb_ dX5_bridges_29 (lv_at hl_ 6 rfl) ?_
          obtain ⟨v9, hv9, h_⟩ := jb_i h_
          refine jx_cvi (wr := []) (cw := [(wMo y a rc is_ pd pn ho eh mv at_ tk fs lt ea), (wAr y (a 6) 205 stf), (wAr y (a 7) 205 kpf), (wAr y (a 8) 1230 hsf), (wAr y (a 9) 410 slf)]) (cw1 := [(wMo y a rc is_ pd pn ho eh mv at_ tk fs lt ea), (wAr y (a 6) 205 stf), (wAr y (a 7) 205 kpf), (wAr y (a 8) 1230 hsf), (wAr y (a 9) 410 slf)]) (cs1 := [(wMo y a rc is_ pd pn ho eh mv at_ tk fs lt ea), (wAr y (a 6) 205 stf), (wAr y (a 7) 205 kpf), (wAr y (a 8) 1230 hsf), (wAr y (a 9) 410 slf)]) (As := [.int (jI x1), .int (jI v7)]) (rest := []) ⟨hx_, hb_, hml_, hown_, hts_⟩ hM_ hP_ hD_ hS_ hA_ (List.Perm.refl _) (List.Perm.refl _) (c_X5_isHole l D y z a rc is_ pd pn ho eh mv at_ tk fs lt ea stf kpf hsf slf x1 v7 fu v9 hv9) 2 gX5_bridges_X5_isHole rfl ⟨rfl, rfl⟩ (by decide +kernel) ⟨by rw [hR_]; exact Nat.le_of_ble_eq_true rfl, by rw [hR_]; exact Nat.le_of_ble_eq_true rfl⟩ 0 5 rfl rfl rfl rfl rfl hl_.1 (Nat.le_of_ble_eq_true rfl) dX5_bridges_31 ⟨Nat.zero_le _, Nat.zero_le _⟩ (fun H locs hP_ hD_ hS_ => ?_)
          have hJ45 : ∀ (v10 : Int) (H : Heap) (locs : List Loc) (ls : Array Slot), f_X5_bridges_J45 fu stf x1 v4 v6 v7 (f_X5_bridges_L16 fu stf x1 (f_X5_bridges_X87 fu x2) n16) v10 = some rr → va_P D vwCl [(wMo y a rc is_ pd pn ho eh mv at_ tk fs lt ea), (wAr y (a 6) 205 stf), (wAr y (a 7) 205 kpf), (wAr y (a 8) 1230 hsf), (wAr y (a 9) 410 slf)].flatten H → va_D A [(wMo y a rc is_ pd pn ho eh mv at_ tk fs lt ea), (wAr y (a 6) 205 stf), (wAr y (a 7) 205 kpf), (wAr y (a 8) 1230 hsf), (wAr y (a 9) 410 slf)].flatten → va_S A s.heap H locs → lv_has ls 7 [(0, .ref (a 0)), (1, .int (jI x1)), (2, .int (jI x2)), (3, .int (jI v4)), (5, .int (jI v6)), (6, .int (jI v7))] → W p l e R s m args below meth c H locs 0 0 Q (F0 m 45 ls [.int (jI v10)]) := by
            intro v10 H locs ls h_ hP_ hD_ hS_ hl_
            unfold f_X5_bridges_J45 at h_
            refine lv_istore (lv' := [(4, .int (jI v10)), (0, .ref (a 0)), (1, .int (jI x1)), (2, .int (jI x2)), (3, .int (jI v4)), (5, .int (jI v6)), (6, .int (jI v7))]) hx_ hb_ dX5_bridges_45 hl_ (by decide) rfl (fun ls hl_ => ?_)
            refine lv_iload_n hx_ hb_ dX5_bridges_47 rfl (lv_at hl_ 4 rfl) ?_
            refine lv_aload_n hx_ hb_ dX5_bridges_48 rfl (lv_at hl_ 1 rfl) ?_
            refine lv_iload_n hx_ hb_ dX5_bridges_49 rfl (lv_at hl_ 2 rfl) ?_
            refine lv_iload hx_ hb_ dX5_bridges_50 (lv_at hl_ 6 rfl) ?_
            obtain ⟨v11, hv11, h_⟩ := jb_i h_
            refine jx_cvi (wr := []) (cw := [(wMo y a rc is_ pd pn ho eh mv at_ tk fs lt ea), (wAr y (a 6) 205 stf), (wAr y (a 7) 205 kpf), (wAr y (a 8) 1230 hsf), (wAr y (a 9) 410 slf)]) (cw1 := [(wMo y a rc is_ pd pn ho eh mv at_ tk fs lt ea), (wAr y (a 6) 205 stf), (wAr y (a 7) 205 kpf), (wAr y (a 8) 1230 hsf), (wAr y (a 9) 410 slf)]) (cs1 := [(wMo y a rc is_ pd pn ho eh mv at_ tk fs lt ea), (wAr y (a 6) 205 stf), (wAr y (a 7) 205 kpf), (wAr y (a 8) 1230 hsf), (wAr y (a 9) 410 slf)]) (As := [.int (jI x1), .int (jI v7)]) (rest := [.int (jI v4)]) ⟨hx_, hb_, hml_, hown_, hts_⟩ hM_ hP_ hD_ hS_ hA_ (List.Perm.refl _) (List.Perm.refl _) (c_X5_isHole l D y z a rc is_ pd pn ho eh mv at_ tk fs lt ea stf kpf hsf slf x1 v7 fu v11 hv11) 2 gX5_bridges_X5_isHole rfl ⟨rfl, rfl⟩ (by decide +kernel) ⟨by rw [hR_]; exact Nat.le_of_ble_eq_true rfl, by rw [hR_]; exact Nat.le_of_ble_eq_true rfl⟩ 0 5 rfl rfl rfl rfl rfl hl_.1 (Nat.le_of_ble_eq_true rfl) dX5_bridges_52 ⟨Nat.zero_le _, Nat.zero_le _⟩ (fun H locs hP_ hD_ hS_ => ?_)
            have hJ63 : ∀ (v12 : Int) (H : Heap) (locs : List Loc) (ls : Array Slot), f_X5_bridges_J63 fu v4 v6 v7 v10 (f_X5_bridges_L16 fu stf x1 (f_X5_bridges_X87 fu x2) n16) v12 = some rr → va_P D vwCl [(wMo y a rc is_ pd pn ho eh mv at_ tk fs lt ea), (wAr y (a 6) 205 stf), (wAr y (a 7) 205 kpf), (wAr y (a 8) 1230 hsf), (wAr y (a 9) 410 slf)].flatten H → va_D A [(wMo y a rc is_ pd pn ho eh mv at_ tk fs lt ea), (wAr y (a 6) 205 stf), (wAr y (a 7) 205 kpf), (wAr y (a 8) 1230 hsf), (wAr y (a 9) 410 slf)].flatten → va_S A s.heap H locs → lv_has ls 7 [(0, .ref (a 0)), (1, .int (jI x1)), (2, .int (jI x2)), (4, .int (jI v10)), (5, .int (jI v6)), (6, .int (jI v7))] → W p l e R s m args below meth c H locs 0 0 Q (F0 m 63 ls [.int (jI v12), .int (jI v4)]) := by
              intro v12 H locs ls h_ hP_ hD_ hS_ hl_
              unfold f_X5_bridges_J63 at h_
              refine jx_iadd hx_ hb_ dX5_bridges_63 ?_
              refine lv_istore_n (lv' := [(3, .int (jI (v4 + v12))), (0, .ref (a 0)), (1, .int (jI x1)), (2, .int (jI x2)), (4, .int (jI v10)), (5, .int (jI v6)), (6, .int (jI v7))]) hx_ hb_ dX5_bridges_64 rfl hl_ (by decide) rfl (fun ls hl_ => ?_)
              refine lv_iload hx_ hb_ dX5_bridges_65 (lv_at hl_ 4 rfl) ?_
              refine lv_iload hx_ hb_ dX5_bridges_67 (lv_at hl_ 5 rfl) ?_
              refine jx_icmp_le (tgt := 77) hx_ hb_ h_ dX5_bridges_69 (by decide) (fun h_ => ?_) (fun h_ => ?_)
              · refine lv_iload hx_ hb_ dX5_bridges_77 (lv_at hl_ 5 rfl) ?_
                refine lv_istore (lv' := [(5, .int (jI v6)), (3, .int (jI (v4 + v12))), (0, .ref (a 0)), (1, .int (jI x1)), (2, .int (jI x2)), (4, .int (jI v10)), (6, .int (jI v7))]) hx_ hb_ dX5_bridges_79 hl_ (by decide) rfl (fun ls hl_ => ?_)
                refine lv_iinc (v := jI (v7 + 1)) (lv' := [(6, .int (jI (v7 + 1))), (5, .int (jI v6)), (3, .int (jI (v4 + v12))), (0, .ref (a 0)), (1, .int (jI x1)), (2, .int (jI x2)), (4, .int (jI v10))]) hx_ hb_ dX5_bridges_81 hl_ (k := 6) rfl (jI_add _ _) (by decide) rfl (fun ls hl_ => ?_)
                refine lv_goto (tgt := 16) hx_ hb_ dX5_bridges_84 (by decide) ?_
                exact ih16 _ _ _ _ _ _ ls h_ hP_ hD_ hS_ (lv_sub hl_ [3, 4, 5, 2, 6, 1, 0] rfl)
              · refine lv_iload hx_ hb_ dX5_bridges_72 (lv_at hl_ 4 rfl) ?_
                refine lv_goto (tgt := 79) hx_ hb_ dX5_bridges_74 (by decide) ?_
                refine lv_istore (lv' := [(5, .int (jI v10)), (3, .int (jI (v4 + v12))), (0, .ref (a 0)), (1, .int (jI x1)), (2, .int (jI x2)), (4, .int (jI v10)), (6, .int (jI v7))]) hx_ hb_ dX5_bridges_79 hl_ (by decide) rfl (fun ls hl_ => ?_)
                refine lv_iinc (v := jI (v7 + 1)) (lv' := [(6, .int (jI (v7 + 1))), (5, .int (jI v10)), (3, .int (jI (v4 + v12))), (0, .ref (a 0)), (1, .int (jI x1)), (2, .int (jI x2)), (4, .int (jI v10))]) hx_ hb_ dX5_bridges_81 hl_ (k := 6) rfl (jI_add _ _) (by decide) rfl (fun ls hl_ => ?_)
                refine lv_goto (tgt := 16) hx_ hb_ dX5_bridges_84 (by decide) ?_
                exact ih16 _ _ _ _ _ _ ls h_ hP_ hD_ hS_ (lv_sub hl_ [3, 4, 5, 2, 6, 1, 0] rfl)
            refine jx_if_eq (tgt := 62) hx_ hb_ h_ dX5_bridges_55 (by decide) (fun h_ => ?_) (fun h_ => ?_)
            · refine lv_iconst (v := jI 1) hx_ hb_ dX5_bridges_62 (by decide +kernel) ?_
              exact hJ63 _ _ _ ls h_ hP_ hD_ hS_ (lv_sub hl_ [1, 2, 3, 0, 5, 6] rfl)
            · refine lv_iconst (v := jI 0) hx_ hb_ dX5_bridges_58 (by decide +kernel) ?_
              refine lv_goto (tgt := 63) hx_ hb_ dX5_bridges_59 (by decide) ?_
              exact hJ63 _ _ _ ls h_ hP_ hD_ hS_ (lv_sub hl_ [1, 2, 3, 0, 5, 6] rfl)
          refine jx_if_eq (tgt := 41) hx_ hb_ h_ dX5_bridges_34 (by decide) (fun h_ => ?_) (fun h_ => ?_)
          · refine lv_iload hx_ hb_ dX5_bridges_41 (lv_at hl_ 4 rfl) ?_
            refine lv_iconst (v := jI 1) hx_ hb_ dX5_bridges_43 (by decide +kernel) ?_
            refine jx_iadd hx_ hb_ dX5_bridges_44 ?_
            exact hJ45 _ _ _ ls h_ hP_ hD_ hS_ (lv_sub hl_ [0, 1, 2, 3, 5, 6] rfl)
          · refine lv_iconst (v := jI 0) hx_ hb_ dX5_bridges_37 (by decide +kernel) ?_
            refine lv_goto (tgt := 45) hx_ hb_ dX5_bridges_38 (by decide) ?_
            exact hJ45 _ _ _ ls h_ hP_ hD_ hS_ (lv_sub hl_ [0, 1, 2, 3, 5, 6] rfl)
    exact hL16 fu _ _ _ _ _ _ ls h_ hP_ hD_ hS_ (lv_sub hl_ [4, 5, 6, 3, 2, 1, 0] rfl)
  exact key_ _ (fun v9 H locs pc ls h9_ hdg_ hP_ hD_ hS_ => by cases h9_; exact jend_i hx_ hb_ hr_ hlocks_ hP_ hD_ hS_ hdg_)
def rm_X5_of : Room := { frames := 4, cells := 0, slots := 0, locals := 90 }
set_option maxRecDepth 100000 in
set_option maxHeartbeats 8000000 in
theorem c_X5_of (l : Launch) (D : va_G) (y : Nat → ClassId) (z : Nat → Nat) (a : Nat → Nat) (rc : Int) (is_ : Int → Int) (pd : Int → Int) (pn : Int) (ho : Int → Int) (eh : Int → Int) (mv : Int → Int) (at_ : Int) (tk : Int) (fs : Int) (lt : Int) (ea : Int) (stf : Int → Int) (kpf : Int → Int) (hsf : Int → Int) (slf : Int → Int) (x1 : Int) (x2 : Int) (fu : Nat) (rr : Int) (q_ho : Int → Int) (q_eh : Int → Int) (h_ : f_X5_of fu ho eh stf x1 x2 = some (rr, q_ho, q_eh)) : jCI l D y z yX5_of wsX5_of rm_X5_of [.ref (a 0), .int (jI x1), .int (jI x2)] [(wMo y a rc is_ pd pn ho eh mv at_ tk fs lt ea), (wAr y (a 6) 205 stf), (wAr y (a 7) 205 kpf), (wAr y (a 8) 1230 hsf), (wAr y (a 9) 410 slf)] [(wMo y a rc is_ pd pn q_ho q_eh mv at_ tk fs lt ea), (wAr y (a 6) 205 stf), (wAr y (a 7) 205 kpf), (wAr y (a 8) 1230 hsf), (wAr y (a 9) 410 slf)] rr := by
  intro sz
  refine jmet (Qc := (fun A => va_Qi (fun v (_ : Unit) => v = jI rr) (jB D A [(wMo y a rc is_ pd pn q_ho q_eh mv at_ tk fs lt ea), (wAr y (a 6) 205 stf), (wAr y (a 7) 205 kpf), (wAr y (a 8) 1230 hsf), (wAr y (a 9) 410 slf)]) A)) (cc := cX5_of) (maxL := 3) (ret := (some .int)) (own := RX5) (by decide) rfl (Nat.le_of_ble_eq_true rfl) rfl (fun p e s m R args below meth c A ls hR_ hargs_ hx_ hb_ hr_ hlocks_ hml_ hown_ hts_ hname_ hsz_ hP_ hD_ hA_ hM_ hl_ => ?_)
  have key_ : ∀ Q : State → Prop, (∀ (v9 : Int) (ho9 : Int → Int) (eh9 : Int → Int) (H : Heap) (locs : List Loc) (pc : Nat) (ls : Array Slot), some (v9, ho9, eh9) = some (rr, q_ho, q_eh) → decode cX5_of pc = .ok (.ireturn, 1) → va_P D vwCl [(wMo y a rc is_ pd pn ho9 eh9 mv at_ tk fs lt ea), (wAr y (a 6) 205 stf), (wAr y (a 7) 205 kpf), (wAr y (a 8) 1230 hsf), (wAr y (a 9) 410 slf)].flatten H → va_D A [(wMo y a rc is_ pd pn ho9 eh9 mv at_ tk fs lt ea), (wAr y (a 6) 205 stf), (wAr y (a 7) 205 kpf), (wAr y (a 8) 1230 hsf), (wAr y (a 9) 410 slf)].flatten → va_S A s.heap H locs → W p l e R s m args below meth c H locs 0 0 Q (F0 m pc ls [.int (jI v9)])) → W p l e R s m args below meth c s.heap [] 0 0 Q (F0 m 0 ls []) := by
    intro Q hE_
    have hS_ : va_S A s.heap s.heap [] := va_S.rf
    have hl_ : lv_has ls 3 [(0, .ref (a 0)), (1, .int (jI x1)), (2, .int (jI x2))] := hl_
    have hin_ : ∀ w ∈ u_ws RX5 TX5 16, w ∈ wsX5_of := by decide +kernel
    unfold f_X5_of at h_
    refine lv_aload_n hx_ hb_ dX5_of_0 rfl (lv_at hl_ 0 rfl) ?_
    refine lv_iload_n hx_ hb_ dX5_of_1 rfl (lv_at hl_ 1 rfl) ?_
    obtain ⟨v1, hv1, h_⟩ := jb_i h_
    refine jx_cvi (wr := []) (cw := [(wMo y a rc is_ pd pn ho eh mv at_ tk fs lt ea), (wAr y (a 6) 205 stf), (wAr y (a 7) 205 kpf), (wAr y (a 8) 1230 hsf), (wAr y (a 9) 410 slf)]) (cw1 := [(wMo y a rc is_ pd pn ho eh mv at_ tk fs lt ea), (wAr y (a 6) 205 stf), (wAr y (a 7) 205 kpf), (wAr y (a 8) 1230 hsf), (wAr y (a 9) 410 slf)]) (cs1 := [(wMo y a rc is_ pd pn ho eh mv at_ tk fs lt ea), (wAr y (a 6) 205 stf), (wAr y (a 7) 205 kpf), (wAr y (a 8) 1230 hsf), (wAr y (a 9) 410 slf)]) (As := [.int (jI x1)]) (rest := []) ⟨hx_, hb_, hml_, hown_, hts_⟩ hM_ hP_ hD_ hS_ hA_ (List.Perm.refl _) (List.Perm.refl _) (c_X5_isNote l D y z a rc is_ pd pn ho eh mv at_ tk fs lt ea stf kpf hsf slf x1 fu v1 hv1) 1 gX5_of_X5_isNote rfl ⟨rfl, rfl⟩ (by decide +kernel) ⟨by rw [hR_]; exact Nat.le_of_ble_eq_true rfl, by rw [hR_]; exact Nat.le_of_ble_eq_true rfl⟩ 0 5 rfl rfl rfl rfl rfl hl_.1 (Nat.le_of_ble_eq_true rfl) dX5_of_2 ⟨Nat.zero_le _, Nat.zero_le _⟩ (fun H locs hP_ hD_ hS_ => ?_)
    refine jx_if_ne (tgt := 10) hx_ hb_ h_ dX5_of_5 (by decide) (fun h_ => ?_) (fun h_ => ?_)
    · refine lv_iload_n hx_ hb_ dX5_of_10 rfl (lv_at hl_ 2 rfl) ?_
      obtain ⟨hsw_, -, h_⟩ := jck_i h_
      by_cases csw : x2 = 0
      · rw [if_pos csw] at h_
        refine jx_tabI (tgt := 56) hx_ hb_ hsw_ dX5_of_11 0 csw (by decide) (by decide) (by rfl) (by decide) ?_
        refine lv_aload_n hx_ hb_ dX5_of_56 rfl (lv_at hl_ 0 rfl) ?_
        refine lv_iload_n hx_ hb_ dX5_of_57 rfl (lv_at hl_ 1 rfl) ?_
        refine lv_iload_n hx_ hb_ dX5_of_58 rfl (lv_at hl_ 2 rfl) ?_
        obtain ⟨v2, hv2, h_⟩ := jb_i h_
        refine jx_cvi (wr := []) (cw := [(wMo y a rc is_ pd pn ho eh mv at_ tk fs lt ea), (wAr y (a 6) 205 stf), (wAr y (a 7) 205 kpf), (wAr y (a 8) 1230 hsf), (wAr y (a 9) 410 slf)]) (cw1 := [(wMo y a rc is_ pd pn ho eh mv at_ tk fs lt ea), (wAr y (a 6) 205 stf), (wAr y (a 7) 205 kpf), (wAr y (a 8) 1230 hsf), (wAr y (a 9) 410 slf)]) (cs1 := [(wMo y a rc is_ pd pn ho eh mv at_ tk fs lt ea), (wAr y (a 6) 205 stf), (wAr y (a 7) 205 kpf), (wAr y (a 8) 1230 hsf), (wAr y (a 9) 410 slf)]) (As := [.int (jI x1), .int (jI x2)]) (rest := []) ⟨hx_, hb_, hml_, hown_, hts_⟩ hM_ hP_ hD_ hS_ hA_ (List.Perm.refl _) (List.Perm.refl _) (c_X5_part l D y z a rc is_ pd pn ho eh mv at_ tk fs lt ea stf kpf hsf slf x1 x2 fu v2 hv2) 2 gX5_of_X5_part rfl ⟨rfl, rfl⟩ (by decide +kernel) ⟨by rw [hR_]; exact Nat.le_of_ble_eq_true rfl, by rw [hR_]; exact Nat.le_of_ble_eq_true rfl⟩ 0 5 rfl rfl rfl rfl rfl hl_.1 (Nat.le_of_ble_eq_true rfl) dX5_of_59 ⟨Nat.zero_le _, Nat.zero_le _⟩ (fun H locs hP_ hD_ hS_ => ?_)
        exact hE_ _ _ _ _ _ _ _ h_ dX5_of_62 hP_ hD_ hS_
      rw [if_neg csw] at h_
      have csw0 := csw; clear csw
      by_cases csw : x2 = 1
      · rw [if_pos csw] at h_
        refine jx_tabI (tgt := 56) hx_ hb_ hsw_ dX5_of_11 1 csw (by decide) (by decide) (by rfl) (by decide) ?_
        refine lv_aload_n hx_ hb_ dX5_of_56 rfl (lv_at hl_ 0 rfl) ?_
        refine lv_iload_n hx_ hb_ dX5_of_57 rfl (lv_at hl_ 1 rfl) ?_
        refine lv_iload_n hx_ hb_ dX5_of_58 rfl (lv_at hl_ 2 rfl) ?_
        obtain ⟨v3, hv3, h_⟩ := jb_i h_
        refine jx_cvi (wr := []) (cw := [(wMo y a rc is_ pd pn ho eh mv at_ tk fs lt ea), (wAr y (a 6) 205 stf), (wAr y (a 7) 205 kpf), (wAr y (a 8) 1230 hsf), (wAr y (a 9) 410 slf)]) (cw1 := [(wMo y a rc is_ pd pn ho eh mv at_ tk fs lt ea), (wAr y (a 6) 205 stf), (wAr y (a 7) 205 kpf), (wAr y (a 8) 1230 hsf), (wAr y (a 9) 410 slf)]) (cs1 := [(wMo y a rc is_ pd pn ho eh mv at_ tk fs lt ea), (wAr y (a 6) 205 stf), (wAr y (a 7) 205 kpf), (wAr y (a 8) 1230 hsf), (wAr y (a 9) 410 slf)]) (As := [.int (jI x1), .int (jI x2)]) (rest := []) ⟨hx_, hb_, hml_, hown_, hts_⟩ hM_ hP_ hD_ hS_ hA_ (List.Perm.refl _) (List.Perm.refl _) (c_X5_part l D y z a rc is_ pd pn ho eh mv at_ tk fs lt ea stf kpf hsf slf x1 x2 fu v3 hv3) 2 gX5_of_X5_part rfl ⟨rfl, rfl⟩ (by decide +kernel) ⟨by rw [hR_]; exact Nat.le_of_ble_eq_true rfl, by rw [hR_]; exact Nat.le_of_ble_eq_true rfl⟩ 0 5 rfl rfl rfl rfl rfl hl_.1 (Nat.le_of_ble_eq_true rfl) dX5_of_59 ⟨Nat.zero_le _, Nat.zero_le _⟩ (fun H locs hP_ hD_ hS_ => ?_)
        exact hE_ _ _ _ _ _ _ _ h_ dX5_of_62 hP_ hD_ hS_
      rw [if_neg csw] at h_
      have csw1 := csw; clear csw
      by_cases csw : x2 = 2
      · rw [if_pos csw] at h_
        refine jx_tabI (tgt := 56) hx_ hb_ hsw_ dX5_of_11 2 csw (by decide) (by decide) (by rfl) (by decide) ?_
        refine lv_aload_n hx_ hb_ dX5_of_56 rfl (lv_at hl_ 0 rfl) ?_
        refine lv_iload_n hx_ hb_ dX5_of_57 rfl (lv_at hl_ 1 rfl) ?_
        refine lv_iload_n hx_ hb_ dX5_of_58 rfl (lv_at hl_ 2 rfl) ?_
        obtain ⟨v4, hv4, h_⟩ := jb_i h_
        refine jx_cvi (wr := []) (cw := [(wMo y a rc is_ pd pn ho eh mv at_ tk fs lt ea), (wAr y (a 6) 205 stf), (wAr y (a 7) 205 kpf), (wAr y (a 8) 1230 hsf), (wAr y (a 9) 410 slf)]) (cw1 := [(wMo y a rc is_ pd pn ho eh mv at_ tk fs lt ea), (wAr y (a 6) 205 stf), (wAr y (a 7) 205 kpf), (wAr y (a 8) 1230 hsf), (wAr y (a 9) 410 slf)]) (cs1 := [(wMo y a rc is_ pd pn ho eh mv at_ tk fs lt ea), (wAr y (a 6) 205 stf), (wAr y (a 7) 205 kpf), (wAr y (a 8) 1230 hsf), (wAr y (a 9) 410 slf)]) (As := [.int (jI x1), .int (jI x2)]) (rest := []) ⟨hx_, hb_, hml_, hown_, hts_⟩ hM_ hP_ hD_ hS_ hA_ (List.Perm.refl _) (List.Perm.refl _) (c_X5_part l D y z a rc is_ pd pn ho eh mv at_ tk fs lt ea stf kpf hsf slf x1 x2 fu v4 hv4) 2 gX5_of_X5_part rfl ⟨rfl, rfl⟩ (by decide +kernel) ⟨by rw [hR_]; exact Nat.le_of_ble_eq_true rfl, by rw [hR_]; exact Nat.le_of_ble_eq_true rfl⟩ 0 5 rfl rfl rfl rfl rfl hl_.1 (Nat.le_of_ble_eq_true rfl) dX5_of_59 ⟨Nat.zero_le _, Nat.zero_le _⟩ (fun H locs hP_ hD_ hS_ => ?_)
        exact hE_ _ _ _ _ _ _ _ h_ dX5_of_62 hP_ hD_ hS_
      rw [if_neg csw] at h_
      have csw2 := csw; clear csw
      by_cases csw : x2 = 3
      · rw [if_pos csw] at h_
        refine jx_tabI (tgt := 56) hx_ hb_ hsw_ dX5_of_11 3 csw (by decide) (by decide) (by rfl) (by decide) ?_
        refine lv_aload_n hx_ hb_ dX5_of_56 rfl (lv_at hl_ 0 rfl) ?_
        refine lv_iload_n hx_ hb_ dX5_of_57 rfl (lv_at hl_ 1 rfl) ?_
        refine lv_iload_n hx_ hb_ dX5_of_58 rfl (lv_at hl_ 2 rfl) ?_
        obtain ⟨v5, hv5, h_⟩ := jb_i h_
        refine jx_cvi (wr := []) (cw := [(wMo y a rc is_ pd pn ho eh mv at_ tk fs lt ea), (wAr y (a 6) 205 stf), (wAr y (a 7) 205 kpf), (wAr y (a 8) 1230 hsf), (wAr y (a 9) 410 slf)]) (cw1 := [(wMo y a rc is_ pd pn ho eh mv at_ tk fs lt ea), (wAr y (a 6) 205 stf), (wAr y (a 7) 205 kpf), (wAr y (a 8) 1230 hsf), (wAr y (a 9) 410 slf)]) (cs1 := [(wMo y a rc is_ pd pn ho eh mv at_ tk fs lt ea), (wAr y (a 6) 205 stf), (wAr y (a 7) 205 kpf), (wAr y (a 8) 1230 hsf), (wAr y (a 9) 410 slf)]) (As := [.int (jI x1), .int (jI x2)]) (rest := []) ⟨hx_, hb_, hml_, hown_, hts_⟩ hM_ hP_ hD_ hS_ hA_ (List.Perm.refl _) (List.Perm.refl _) (c_X5_part l D y z a rc is_ pd pn ho eh mv at_ tk fs lt ea stf kpf hsf slf x1 x2 fu v5 hv5) 2 gX5_of_X5_part rfl ⟨rfl, rfl⟩ (by decide +kernel) ⟨by rw [hR_]; exact Nat.le_of_ble_eq_true rfl, by rw [hR_]; exact Nat.le_of_ble_eq_true rfl⟩ 0 5 rfl rfl rfl rfl rfl hl_.1 (Nat.le_of_ble_eq_true rfl) dX5_of_59 ⟨Nat.zero_le _, Nat.zero_le _⟩ (fun H locs hP_ hD_ hS_ => ?_)
        exact hE_ _ _ _ _ _ _ _ h_ dX5_of_62 hP_ hD_ hS_
      rw [if_neg csw] at h_
      have csw3 := csw; clear csw
      by_cases csw : x2 = 4
      · rw [if_pos csw] at h_
        refine jx_tabI (tgt := 56) hx_ hb_ hsw_ dX5_of_11 4 csw (by decide) (by decide) (by rfl) (by decide) ?_
        refine lv_aload_n hx_ hb_ dX5_of_56 rfl (lv_at hl_ 0 rfl) ?_
        refine lv_iload_n hx_ hb_ dX5_of_57 rfl (lv_at hl_ 1 rfl) ?_
        refine lv_iload_n hx_ hb_ dX5_of_58 rfl (lv_at hl_ 2 rfl) ?_
        obtain ⟨v6, hv6, h_⟩ := jb_i h_
        refine jx_cvi (wr := []) (cw := [(wMo y a rc is_ pd pn ho eh mv at_ tk fs lt ea), (wAr y (a 6) 205 stf), (wAr y (a 7) 205 kpf), (wAr y (a 8) 1230 hsf), (wAr y (a 9) 410 slf)]) (cw1 := [(wMo y a rc is_ pd pn ho eh mv at_ tk fs lt ea), (wAr y (a 6) 205 stf), (wAr y (a 7) 205 kpf), (wAr y (a 8) 1230 hsf), (wAr y (a 9) 410 slf)]) (cs1 := [(wMo y a rc is_ pd pn ho eh mv at_ tk fs lt ea), (wAr y (a 6) 205 stf), (wAr y (a 7) 205 kpf), (wAr y (a 8) 1230 hsf), (wAr y (a 9) 410 slf)]) (As := [.int (jI x1), .int (jI x2)]) (rest := []) ⟨hx_, hb_, hml_, hown_, hts_⟩ hM_ hP_ hD_ hS_ hA_ (List.Perm.refl _) (List.Perm.refl _) (c_X5_part l D y z a rc is_ pd pn ho eh mv at_ tk fs lt ea stf kpf hsf slf x1 x2 fu v6 hv6) 2 gX5_of_X5_part rfl ⟨rfl, rfl⟩ (by decide +kernel) ⟨by rw [hR_]; exact Nat.le_of_ble_eq_true rfl, by rw [hR_]; exact Nat.le_of_ble_eq_true rfl⟩ 0 5 rfl rfl rfl rfl rfl hl_.1 (Nat.le_of_ble_eq_true rfl) dX5_of_59 ⟨Nat.zero_le _, Nat.zero_le _⟩ (fun H locs hP_ hD_ hS_ => ?_)
        exact hE_ _ _ _ _ _ _ _ h_ dX5_of_62 hP_ hD_ hS_
      rw [if_neg csw] at h_
      have csw4 := csw; clear csw
      by_cases csw : x2 = 5
      · rw [if_pos csw] at h_
        refine jx_tabI (tgt := 63) hx_ hb_ hsw_ dX5_of_11 5 csw (by decide) (by decide) (by rfl) (by decide) ?_
        refine lv_aload_n hx_ hb_ dX5_of_63 rfl (lv_at hl_ 0 rfl) ?_
        refine lv_iload_n hx_ hb_ dX5_of_64 rfl (lv_at hl_ 1 rfl) ?_
        refine lv_iconst (v := jI 0) hx_ hb_ dX5_of_65 (by decide +kernel) ?_
        obtain ⟨v7, hv7, h_⟩ := jb_i h_
        refine jx_cvi (wr := []) (cw := [(wMo y a rc is_ pd pn ho eh mv at_ tk fs lt ea), (wAr y (a 6) 205 stf), (wAr y (a 7) 205 kpf), (wAr y (a 8) 1230 hsf), (wAr y (a 9) 410 slf)]) (cw1 := [(wMo y a rc is_ pd pn ho eh mv at_ tk fs lt ea), (wAr y (a 6) 205 stf), (wAr y (a 7) 205 kpf), (wAr y (a 8) 1230 hsf), (wAr y (a 9) 410 slf)]) (cs1 := [(wMo y a rc is_ pd pn ho eh mv at_ tk fs lt ea), (wAr y (a 6) 205 stf), (wAr y (a 7) 205 kpf), (wAr y (a 8) 1230 hsf), (wAr y (a 9) 410 slf)]) (As := [.int (jI x1), .int (jI 0)]) (rest := []) ⟨hx_, hb_, hml_, hown_, hts_⟩ hM_ hP_ hD_ hS_ hA_ (List.Perm.refl _) (List.Perm.refl _) (c_X5_bridges l D y z a rc is_ pd pn ho eh mv at_ tk fs lt ea stf kpf hsf slf x1 0 fu v7 hv7) 2 gX5_of_X5_bridges rfl ⟨rfl, rfl⟩ (by decide +kernel) ⟨by rw [hR_]; exact Nat.le_of_ble_eq_true rfl, by rw [hR_]; exact Nat.le_of_ble_eq_true rfl⟩ 0 5 rfl rfl rfl rfl rfl hl_.1 (Nat.le_of_ble_eq_true rfl) dX5_of_66 ⟨Nat.zero_le _, Nat.zero_le _⟩ (fun H locs hP_ hD_ hS_ => ?_)
        exact hE_ _ _ _ _ _ _ _ h_ dX5_of_69 hP_ hD_ hS_
      rw [if_neg csw] at h_
      have csw5 := csw; clear csw
      by_cases csw : x2 = 6
      · rw [if_pos csw] at h_
        refine jx_tabI (tgt := 70) hx_ hb_ hsw_ dX5_of_11 6 csw (by decide) (by decide) (by rfl) (by decide) ?_
        refine lv_aload_n hx_ hb_ dX5_of_70 rfl (lv_at hl_ 0 rfl) ?_
        refine lv_iload_n hx_ hb_ dX5_of_71 rfl (lv_at hl_ 1 rfl) ?_
        refine lv_iconst (v := jI 1) hx_ hb_ dX5_of_72 (by decide +kernel) ?_
        obtain ⟨v8, hv8, h_⟩ := jb_i h_
        refine jx_cvi (wr := []) (cw := [(wMo y a rc is_ pd pn ho eh mv at_ tk fs lt ea), (wAr y (a 6) 205 stf), (wAr y (a 7) 205 kpf), (wAr y (a 8) 1230 hsf), (wAr y (a 9) 410 slf)]) (cw1 := [(wMo y a rc is_ pd pn ho eh mv at_ tk fs lt ea), (wAr y (a 6) 205 stf), (wAr y (a 7) 205 kpf), (wAr y (a 8) 1230 hsf), (wAr y (a 9) 410 slf)]) (cs1 := [(wMo y a rc is_ pd pn ho eh mv at_ tk fs lt ea), (wAr y (a 6) 205 stf), (wAr y (a 7) 205 kpf), (wAr y (a 8) 1230 hsf), (wAr y (a 9) 410 slf)]) (As := [.int (jI x1), .int (jI 1)]) (rest := []) ⟨hx_, hb_, hml_, hown_, hts_⟩ hM_ hP_ hD_ hS_ hA_ (List.Perm.refl _) (List.Perm.refl _) (c_X5_bridges l D y z a rc is_ pd pn ho eh mv at_ tk fs lt ea stf kpf hsf slf x1 1 fu v8 hv8) 2 gX5_of_X5_bridges rfl ⟨rfl, rfl⟩ (by decide +kernel) ⟨by rw [hR_]; exact Nat.le_of_ble_eq_true rfl, by rw [hR_]; exact Nat.le_of_ble_eq_true rfl⟩ 0 5 rfl rfl rfl rfl rfl hl_.1 (Nat.le_of_ble_eq_true rfl) dX5_of_73 ⟨Nat.zero_le _, Nat.zero_le _⟩ (fun H locs hP_ hD_ hS_ => ?_)
        exact hE_ _ _ _ _ _ _ _ h_ dX5_of_76 hP_ hD_ hS_
      rw [if_neg csw] at h_
      have csw6 := csw; clear csw
      by_cases csw : x2 = 7
      · rw [if_pos csw] at h_
        refine jx_tabI (tgt := 77) hx_ hb_ hsw_ dX5_of_11 7 csw (by decide) (by decide) (by rfl) (by decide) ?_
        refine lv_aload_n hx_ hb_ dX5_of_77 rfl (lv_at hl_ 0 rfl) ?_
        obtain ⟨ho_m9, eh_m10, hho_m9, h_⟩ := jb2_i h_
        refine jx_cvv (rv := 0) (wr := []) (cw := [(wMo y a rc is_ pd pn ho eh mv at_ tk fs lt ea), (wAr y (a 6) 205 stf), (wAr y (a 7) 205 kpf), (wAr y (a 8) 1230 hsf), (wAr y (a 9) 410 slf)]) (cw1 := [(wMo y a rc is_ pd pn ho_m9 eh_m10 mv at_ tk fs lt ea), (wAr y (a 6) 205 stf), (wAr y (a 7) 205 kpf), (wAr y (a 8) 1230 hsf), (wAr y (a 9) 410 slf)]) (cs1 := [(wMo y a rc is_ pd pn ho_m9 eh_m10 mv at_ tk fs lt ea), (wAr y (a 6) 205 stf), (wAr y (a 7) 205 kpf), (wAr y (a 8) 1230 hsf), (wAr y (a 9) 410 slf)]) (As := []) (rest := []) ⟨hx_, hb_, hml_, hown_, hts_⟩ hM_ hP_ hD_ hS_ hA_ (List.Perm.refl _) (List.Perm.refl _) (c_X5_findHeard l D y z a rc is_ pd pn ho eh mv at_ tk fs lt ea stf kpf hsf slf fu ho_m9 eh_m10 hho_m9) 0 gX5_of_X5_findHeard rfl ⟨rfl, rfl⟩ (by decide +kernel) ⟨by rw [hR_]; exact Nat.le_of_ble_eq_true rfl, by rw [hR_]; exact Nat.le_of_ble_eq_true rfl⟩ 0 5 rfl rfl rfl rfl rfl hl_.1 (Nat.le_of_ble_eq_true rfl) dX5_of_78 ⟨Nat.zero_le _, Nat.zero_le _⟩ (fun H locs hP_ hD_ hS_ => ?_)
        refine lv_aload_n hx_ hb_ dX5_of_81 rfl (lv_at hl_ 0 rfl) ?_
        refine lv_iload_n hx_ hb_ dX5_of_82 rfl (lv_at hl_ 1 rfl) ?_
        obtain ⟨v11, hv11, h_⟩ := jb_i h_
        refine jx_cvi (wr := []) (cw := [(wMo y a rc is_ pd pn ho_m9 eh_m10 mv at_ tk fs lt ea), (wAr y (a 6) 205 stf), (wAr y (a 7) 205 kpf), (wAr y (a 8) 1230 hsf), (wAr y (a 9) 410 slf)]) (cw1 := [(wMo y a rc is_ pd pn ho_m9 eh_m10 mv at_ tk fs lt ea), (wAr y (a 6) 205 stf), (wAr y (a 7) 205 kpf), (wAr y (a 8) 1230 hsf), (wAr y (a 9) 410 slf)]) (cs1 := [(wMo y a rc is_ pd pn ho_m9 eh_m10 mv at_ tk fs lt ea), (wAr y (a 6) 205 stf), (wAr y (a 7) 205 kpf), (wAr y (a 8) 1230 hsf), (wAr y (a 9) 410 slf)]) (As := [.int (jI x1)]) (rest := []) ⟨hx_, hb_, hml_, hown_, hts_⟩ hM_ hP_ hD_ hS_ hA_ (List.Perm.refl _) (List.Perm.refl _) (c_X5_isWholeHeard l D y z a rc is_ pd pn ho_m9 eh_m10 mv at_ tk fs lt ea stf kpf hsf slf x1 fu v11 hv11) 1 gX5_of_X5_isWholeHeard rfl ⟨rfl, rfl⟩ (by decide +kernel) ⟨by rw [hR_]; exact Nat.le_of_ble_eq_true rfl, by rw [hR_]; exact Nat.le_of_ble_eq_true rfl⟩ 0 5 rfl rfl rfl rfl rfl hl_.1 (Nat.le_of_ble_eq_true rfl) dX5_of_83 ⟨Nat.zero_le _, Nat.zero_le _⟩ (fun H locs hP_ hD_ hS_ => ?_)
        refine jx_if_eq (tgt := 93) hx_ hb_ h_ dX5_of_86 (by decide) (fun h_ => ?_) (fun h_ => ?_)
        · refine lv_iconst (v := jI 0) hx_ hb_ dX5_of_93 (by decide +kernel) ?_
          exact hE_ _ _ _ _ _ _ _ h_ dX5_of_94 hP_ hD_ hS_
        · refine lv_iconst (v := jI 1) hx_ hb_ dX5_of_89 (by decide +kernel) ?_
          refine lv_goto (tgt := 94) hx_ hb_ dX5_of_90 (by decide) ?_
          exact hE_ _ _ _ _ _ _ _ h_ dX5_of_94 hP_ hD_ hS_
      rw [if_neg csw] at h_
      have csw7 := csw; clear csw
      refine jx_tabO (tgt := 95) hx_ hb_ hsw_ dX5_of_11 (by omega) (by decide) ?_
      refine lv_bipush (v := jI (-2)) hx_ hb_ dX5_of_95 (by decide +kernel) ?_
      exact hE_ _ _ _ _ _ _ _ h_ dX5_of_97 hP_ hD_ hS_
    · refine lv_iconst (v := jI (-1)) hx_ hb_ dX5_of_8 (by decide +kernel) ?_
      exact hE_ _ _ _ _ _ _ _ h_ dX5_of_9 hP_ hD_ hS_
  exact key_ _ (fun v9 ho9 eh9 H locs pc ls h9_ hdg_ hP_ hD_ hS_ => by cases h9_; exact jend_i hx_ hb_ hr_ hlocks_ hP_ hD_ hS_ hdg_)
def rm_X5_tracksAt : Room := { frames := 1, cells := 0, slots := 0, locals := 22 }
set_option maxRecDepth 100000 in
set_option maxHeartbeats 8000000 in
theorem c_X5_tracksAt (l : Launch) (D : va_G) (y : Nat → ClassId) (z : Nat → Nat) (a : Nat → Nat) (rc : Int) (is_ : Int → Int) (pd : Int → Int) (pn : Int) (ho : Int → Int) (eh : Int → Int) (mv : Int → Int) (at_ : Int) (tk : Int) (fs : Int) (lt : Int) (ea : Int) (stf : Int → Int) (kpf : Int → Int) (hsf : Int → Int) (slf : Int → Int) (x1 : Int) (fu : Nat) (rr : Int) (h_ : f_X5_tracksAt fu stf x1 = some rr) : jCI l D y z yX5_tracksAt wsX5_tracksAt rm_X5_tracksAt [.ref (a 0), .int (jI x1)] [(wMo y a rc is_ pd pn ho eh mv at_ tk fs lt ea), (wAr y (a 6) 205 stf), (wAr y (a 7) 205 kpf), (wAr y (a 8) 1230 hsf), (wAr y (a 9) 410 slf)] [(wMo y a rc is_ pd pn ho eh mv at_ tk fs lt ea), (wAr y (a 6) 205 stf), (wAr y (a 7) 205 kpf), (wAr y (a 8) 1230 hsf), (wAr y (a 9) 410 slf)] rr := by
  intro sz
  refine jmet (Qc := (fun A => va_Qi (fun v (_ : Unit) => v = jI rr) (jB D A [(wMo y a rc is_ pd pn ho eh mv at_ tk fs lt ea), (wAr y (a 6) 205 stf), (wAr y (a 7) 205 kpf), (wAr y (a 8) 1230 hsf), (wAr y (a 9) 410 slf)]) A)) (cc := cX5_tracksAt) (maxL := 4) (ret := (some .int)) (own := RX5) (by decide) rfl (Nat.le_of_ble_eq_true rfl) rfl (fun p e s m R args below meth c A ls hR_ hargs_ hx_ hb_ hr_ hlocks_ hml_ hown_ hts_ hname_ hsz_ hP_ hD_ hA_ hM_ hl_ => ?_)
  have key_ : ∀ Q : State → Prop, (∀ (v9 : Int) (H : Heap) (locs : List Loc) (pc : Nat) (ls : Array Slot), some v9 = some rr → decode cX5_tracksAt pc = .ok (.ireturn, 1) → va_P D vwCl [(wMo y a rc is_ pd pn ho eh mv at_ tk fs lt ea), (wAr y (a 6) 205 stf), (wAr y (a 7) 205 kpf), (wAr y (a 8) 1230 hsf), (wAr y (a 9) 410 slf)].flatten H → va_D A [(wMo y a rc is_ pd pn ho eh mv at_ tk fs lt ea), (wAr y (a 6) 205 stf), (wAr y (a 7) 205 kpf), (wAr y (a 8) 1230 hsf), (wAr y (a 9) 410 slf)].flatten → va_S A s.heap H locs → W p l e R s m args below meth c H locs 0 0 Q (F0 m pc ls [.int (jI v9)])) → W p l e R s m args below meth c s.heap [] 0 0 Q (F0 m 0 ls []) := by
    intro Q hE_
    have hS_ : va_S A s.heap s.heap [] := va_S.rf
    have hl_ : lv_has ls 4 [(0, .ref (a 0)), (1, .int (jI x1))] := hl_
    have hin_ : ∀ w ∈ u_ws RX5 TX5 16, w ∈ wsX5_tracksAt := by decide +kernel
    unfold f_X5_tracksAt at h_
    refine lv_iconst (v := jI 0) hx_ hb_ dX5_tracksAt_0 (by decide +kernel) ?_
    refine lv_istore_n (lv' := [(2, .int (jI 0)), (0, .ref (a 0)), (1, .int (jI x1))]) hx_ hb_ dX5_tracksAt_1 rfl hl_ (by decide) rfl (fun ls hl_ => ?_)
    refine lv_iconst (v := jI 0) hx_ hb_ dX5_tracksAt_2 (by decide +kernel) ?_
    refine lv_istore_n (lv' := [(3, .int (jI 0)), (2, .int (jI 0)), (0, .ref (a 0)), (1, .int (jI x1))]) hx_ hb_ dX5_tracksAt_3 rfl hl_ (by decide) rfl (fun ls hl_ => ?_)
    have hX54 : ∀ (v1 : Int) (H : Heap) (locs : List Loc) (ls : Array Slot), f_X5_tracksAt_X54 fu v1 = some rr → va_P D vwCl [(wMo y a rc is_ pd pn ho eh mv at_ tk fs lt ea), (wAr y (a 6) 205 stf), (wAr y (a 7) 205 kpf), (wAr y (a 8) 1230 hsf), (wAr y (a 9) 410 slf)].flatten H → va_D A [(wMo y a rc is_ pd pn ho eh mv at_ tk fs lt ea), (wAr y (a 6) 205 stf), (wAr y (a 7) 205 kpf), (wAr y (a 8) 1230 hsf), (wAr y (a 9) 410 slf)].flatten → va_S A s.heap H locs → lv_has ls 4 [(2, .int (jI v1))] → W p l e R s m args below meth c H locs 0 0 Q (F0 m 54 ls []) := by
      intro v1 H locs ls h_ hP_ hD_ hS_ hl_
      unfold f_X5_tracksAt_X54 at h_
      refine lv_iload_n hx_ hb_ dX5_tracksAt_54 rfl (lv_at hl_ 0 rfl) ?_
      exact hE_ _ _ _ _ _ h_ dX5_tracksAt_55 hP_ hD_ hS_
    have hL4 : ∀ n4 : Nat, ∀ (v2 : Int) (v3 : Int) (H : Heap) (locs : List Loc) (ls : Array Slot), f_X5_tracksAt_L4 fu stf x1 (f_X5_tracksAt_X54 fu) n4 v2 v3 = some rr → va_P D vwCl [(wMo y a rc is_ pd pn ho eh mv at_ tk fs lt ea), (wAr y (a 6) 205 stf), (wAr y (a 7) 205 kpf), (wAr y (a 8) 1230 hsf), (wAr y (a 9) 410 slf)].flatten H → va_D A [(wMo y a rc is_ pd pn ho eh mv at_ tk fs lt ea), (wAr y (a 6) 205 stf), (wAr y (a 7) 205 kpf), (wAr y (a 8) 1230 hsf), (wAr y (a 9) 410 slf)].flatten → va_S A s.heap H locs → lv_has ls 4 [(0, .ref (a 0)), (1, .int (jI x1)), (2, .int (jI v2)), (3, .int (jI v3))] → W p l e R s m args below meth c H locs 0 0 Q (F0 m 4 ls []) := by
      intro n4
      induction n4 with
      | zero => intro _ _ H locs ls h_; have h_ : (none : Option (Int)) = some rr := h_; cases h_
      | succ n4 ih4 =>
        intro v2 v3 H locs ls h_ hP_ hD_ hS_ hl_
        replace h_ : f_X5_tracksAt_L4_b fu stf x1 (f_X5_tracksAt_X54 fu) (f_X5_tracksAt_L4 fu stf x1 (f_X5_tracksAt_X54 fu) n4) v2 v3 = some rr := h_
        unfold f_X5_tracksAt_L4_b at h_
        refine lv_iload_n hx_ hb_ dX5_tracksAt_4 rfl (lv_at hl_ 3 rfl) ?_
        refine lv_aload_n hx_ hb_ dX5_tracksAt_5 rfl (lv_at hl_ 0 rfl) ?_
        refine va_get (D := D) (ci := 5) (v := .ref (a 6)) (C := RX5) (T := TX5) (N := 16) hx_ hb_ hts_ hin_ hown_ hM_.1 hP_ 0 rfl rfl 0 (by decide) (hts_ (.fieldLink RX5 7 "MusicHolesModel" "state" "[I") (by decide +kernel)) (fun _ h9_ => h9_) rfl dX5_tracksAt_6 ?_
        refine lv_iconst (v := jI 4) hx_ hb_ dX5_tracksAt_9 (by decide +kernel) ?_
        refine jx_iald hx_ hb_ hM_ hP_ 6 0 rfl rfl rfl (Nat.le_of_ble_eq_true rfl) h_ dX5_tracksAt_10 (fun h_ => ?_)
        refine jx_icmp_ge (tgt := 54) hx_ hb_ h_ dX5_tracksAt_11 (by decide) (fun h_ => ?_) (fun h_ => ?_)
        · exact hX54 _ _ _ ls h_ hP_ hD_ hS_ (lv_sub hl_ [2] rfl)
        · refine lv_iload_n hx_ hb_ dX5_tracksAt_14 rfl (lv_at hl_ 2 rfl) ?_
          refine lv_iload_n hx_ hb_ dX5_tracksAt_15 rfl (lv_at hl_ 1 rfl) ?_
          refine lv_aload_n hx_ hb_ dX5_tracksAt_16 rfl (lv_at hl_ 0 rfl) ?_
          refine lv_iload_n hx_ hb_ dX5_tracksAt_17 rfl (lv_at hl_ 3 rfl) ?_
          refine lv_iconst (v := jI 1) hx_ hb_ dX5_tracksAt_18 (by decide +kernel) ?_
          obtain ⟨v4, hv4, h_⟩ := jb_i h_
          refine jx_cvi (wr := []) (cw := [(wMo y a rc is_ pd pn ho eh mv at_ tk fs lt ea), (wAr y (a 6) 205 stf), (wAr y (a 7) 205 kpf), (wAr y (a 8) 1230 hsf), (wAr y (a 9) 410 slf)]) (cw1 := [(wMo y a rc is_ pd pn ho eh mv at_ tk fs lt ea), (wAr y (a 6) 205 stf), (wAr y (a 7) 205 kpf), (wAr y (a 8) 1230 hsf), (wAr y (a 9) 410 slf)]) (cs1 := [(wMo y a rc is_ pd pn ho eh mv at_ tk fs lt ea), (wAr y (a 6) 205 stf), (wAr y (a 7) 205 kpf), (wAr y (a 8) 1230 hsf), (wAr y (a 9) 410 slf)]) (As := [.int (jI v3), .int (jI 1)]) (rest := [.int (jI x1), .int (jI v2)]) ⟨hx_, hb_, hml_, hown_, hts_⟩ hM_ hP_ hD_ hS_ hA_ (List.Perm.refl _) (List.Perm.refl _) (c_X5_part l D y z a rc is_ pd pn ho eh mv at_ tk fs lt ea stf kpf hsf slf v3 1 fu v4 hv4) 2 gX5_tracksAt_X5_part rfl ⟨rfl, rfl⟩ (by decide +kernel) ⟨by rw [hR_]; exact Nat.le_of_ble_eq_true rfl, by rw [hR_]; exact Nat.le_of_ble_eq_true rfl⟩ 0 5 rfl rfl rfl rfl rfl hl_.1 (Nat.le_of_ble_eq_true rfl) dX5_tracksAt_19 ⟨Nat.zero_le _, Nat.zero_le _⟩ (fun H locs hP_ hD_ hS_ => ?_)
          refine lv_aload_n hx_ hb_ dX5_tracksAt_22 rfl (lv_at hl_ 0 rfl) ?_
          refine lv_iload_n hx_ hb_ dX5_tracksAt_23 rfl (lv_at hl_ 3 rfl) ?_
          refine lv_iconst (v := jI 2) hx_ hb_ dX5_tracksAt_24 (by decide +kernel) ?_
          obtain ⟨v5, hv5, h_⟩ := jb_i h_
          refine jx_cvi (wr := []) (cw := [(wMo y a rc is_ pd pn ho eh mv at_ tk fs lt ea), (wAr y (a 6) 205 stf), (wAr y (a 7) 205 kpf), (wAr y (a 8) 1230 hsf), (wAr y (a 9) 410 slf)]) (cw1 := [(wMo y a rc is_ pd pn ho eh mv at_ tk fs lt ea), (wAr y (a 6) 205 stf), (wAr y (a 7) 205 kpf), (wAr y (a 8) 1230 hsf), (wAr y (a 9) 410 slf)]) (cs1 := [(wMo y a rc is_ pd pn ho eh mv at_ tk fs lt ea), (wAr y (a 6) 205 stf), (wAr y (a 7) 205 kpf), (wAr y (a 8) 1230 hsf), (wAr y (a 9) 410 slf)]) (As := [.int (jI v3), .int (jI 2)]) (rest := [.int (jI v4), .int (jI x1), .int (jI v2)]) ⟨hx_, hb_, hml_, hown_, hts_⟩ hM_ hP_ hD_ hS_ hA_ (List.Perm.refl _) (List.Perm.refl _) (c_X5_part l D y z a rc is_ pd pn ho eh mv at_ tk fs lt ea stf kpf hsf slf v3 2 fu v5 hv5) 2 gX5_tracksAt_X5_part rfl ⟨rfl, rfl⟩ (by decide +kernel) ⟨by rw [hR_]; exact Nat.le_of_ble_eq_true rfl, by rw [hR_]; exact Nat.le_of_ble_eq_true rfl⟩ 0 5 rfl rfl rfl rfl rfl hl_.1 (Nat.le_of_ble_eq_true rfl) dX5_tracksAt_25 ⟨Nat.zero_le _, Nat.zero_le _⟩ (fun H locs hP_ hD_ hS_ => ?_)
          obtain ⟨v6, hv6, h_⟩ := jb_i h_
          refine jx_csi (b := 0) (C := "") (wr := [(wMo y a rc is_ pd pn ho eh mv at_ tk fs lt ea), (wAr y (a 6) 205 stf), (wAr y (a 7) 205 kpf), (wAr y (a 8) 1230 hsf), (wAr y (a 9) 410 slf)]) (cw := []) (cw1 := []) (cs1 := [(wMo y a rc is_ pd pn ho eh mv at_ tk fs lt ea), (wAr y (a 6) 205 stf), (wAr y (a 7) 205 kpf), (wAr y (a 8) 1230 hsf), (wAr y (a 9) 410 slf)]) (As := [.int (jI x1), .int (jI v4), .int (jI v5)]) (rest := [.int (jI v2)]) ⟨hx_, hb_, hml_, hown_, hts_⟩ hM_ hP_ hD_ hS_ hA_ (List.Perm.of_eq (List.append_nil _).symm) (List.Perm.of_eq (List.append_nil _)) (c_X5_within l D y z x1 v4 v5 fu v6 hv6) 3 (va_cwS 3 hts_ gX5_tracksAt_X5_within rfl rfl rfl (by decide +kernel) ⟨by rw [hR_]; exact Nat.le_of_ble_eq_true rfl, by rw [hR_]; exact Nat.le_of_ble_eq_true rfl⟩) rfl ⟨rfl, rfl⟩ ⟨by rw [hR_]; exact Nat.le_of_ble_eq_true rfl, by rw [hR_]; exact Nat.le_of_ble_eq_true rfl⟩ rfl rfl hl_.1 (Nat.le_of_ble_eq_true rfl) dX5_tracksAt_28 ⟨Nat.zero_le _, Nat.zero_le _⟩ (fun H locs hP_ hD_ hS_ => ?_)
          refine jx_if_eq (tgt := 45) hx_ hb_ h_ dX5_tracksAt_31 (by decide) (fun h_ => ?_) (fun h_ => ?_)
          · refine lv_iconst (v := jI 0) hx_ hb_ dX5_tracksAt_45 (by decide +kernel) ?_
            refine jx_ior hx_ hb_ dX5_tracksAt_46 ?_
            refine lv_istore_n (lv' := [(2, .int (jI (jor v2 0))), (0, .ref (a 0)), (1, .int (jI x1)), (3, .int (jI v3))]) hx_ hb_ dX5_tracksAt_47 rfl hl_ (by decide) rfl (fun ls hl_ => ?_)
            refine lv_iinc (v := jI (v3 + 1)) (lv' := [(3, .int (jI (v3 + 1))), (2, .int (jI (jor v2 0))), (0, .ref (a 0)), (1, .int (jI x1))]) hx_ hb_ dX5_tracksAt_48 hl_ (k := 3) rfl (jI_add _ _) (by decide) rfl (fun ls hl_ => ?_)
            refine lv_goto (tgt := 4) hx_ hb_ dX5_tracksAt_51 (by decide) ?_
            exact ih4 _ _ _ _ ls h_ hP_ hD_ hS_ (lv_sub hl_ [2, 3, 1, 0] rfl)
          · refine lv_iconst (v := jI 1) hx_ hb_ dX5_tracksAt_34 (by decide +kernel) ?_
            refine lv_aload_n hx_ hb_ dX5_tracksAt_35 rfl (lv_at hl_ 0 rfl) ?_
            refine lv_iload_n hx_ hb_ dX5_tracksAt_36 rfl (lv_at hl_ 3 rfl) ?_
            refine lv_iconst (v := jI 0) hx_ hb_ dX5_tracksAt_37 (by decide +kernel) ?_
            obtain ⟨v7, hv7, h_⟩ := jb_i h_
            refine jx_cvi (wr := []) (cw := [(wMo y a rc is_ pd pn ho eh mv at_ tk fs lt ea), (wAr y (a 6) 205 stf), (wAr y (a 7) 205 kpf), (wAr y (a 8) 1230 hsf), (wAr y (a 9) 410 slf)]) (cw1 := [(wMo y a rc is_ pd pn ho eh mv at_ tk fs lt ea), (wAr y (a 6) 205 stf), (wAr y (a 7) 205 kpf), (wAr y (a 8) 1230 hsf), (wAr y (a 9) 410 slf)]) (cs1 := [(wMo y a rc is_ pd pn ho eh mv at_ tk fs lt ea), (wAr y (a 6) 205 stf), (wAr y (a 7) 205 kpf), (wAr y (a 8) 1230 hsf), (wAr y (a 9) 410 slf)]) (As := [.int (jI v3), .int (jI 0)]) (rest := [.int (jI 1), .int (jI v2)]) ⟨hx_, hb_, hml_, hown_, hts_⟩ hM_ hP_ hD_ hS_ hA_ (List.Perm.refl _) (List.Perm.refl _) (c_X5_part l D y z a rc is_ pd pn ho eh mv at_ tk fs lt ea stf kpf hsf slf v3 0 fu v7 hv7) 2 gX5_tracksAt_X5_part rfl ⟨rfl, rfl⟩ (by decide +kernel) ⟨by rw [hR_]; exact Nat.le_of_ble_eq_true rfl, by rw [hR_]; exact Nat.le_of_ble_eq_true rfl⟩ 0 5 rfl rfl rfl rfl rfl hl_.1 (Nat.le_of_ble_eq_true rfl) dX5_tracksAt_38 ⟨Nat.zero_le _, Nat.zero_le _⟩ (fun H locs hP_ hD_ hS_ => ?_)
            refine jx_ishl hx_ hb_ dX5_tracksAt_41 ?_
            refine lv_goto (tgt := 46) hx_ hb_ dX5_tracksAt_42 (by decide) ?_
            refine jx_ior hx_ hb_ dX5_tracksAt_46 ?_
            refine lv_istore_n (lv' := [(2, .int (jI (jor v2 (jshl 1 v7)))), (0, .ref (a 0)), (1, .int (jI x1)), (3, .int (jI v3))]) hx_ hb_ dX5_tracksAt_47 rfl hl_ (by decide) rfl (fun ls hl_ => ?_)
            refine lv_iinc (v := jI (v3 + 1)) (lv' := [(3, .int (jI (v3 + 1))), (2, .int (jI (jor v2 (jshl 1 v7)))), (0, .ref (a 0)), (1, .int (jI x1))]) hx_ hb_ dX5_tracksAt_48 hl_ (k := 3) rfl (jI_add _ _) (by decide) rfl (fun ls hl_ => ?_)
            refine lv_goto (tgt := 4) hx_ hb_ dX5_tracksAt_51 (by decide) ?_
            exact ih4 _ _ _ _ ls h_ hP_ hD_ hS_ (lv_sub hl_ [2, 3, 1, 0] rfl)
    exact hL4 fu _ _ _ _ ls h_ hP_ hD_ hS_ (lv_sub hl_ [2, 3, 1, 0] rfl)
  exact key_ _ (fun v9 H locs pc ls h9_ hdg_ hP_ hD_ hS_ => by cases h9_; exact jend_i hx_ hb_ hr_ hlocks_ hP_ hD_ hS_ hdg_)
