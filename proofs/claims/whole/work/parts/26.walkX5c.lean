def rm_X5_isWholeHeard : Room := { frames := 1, cells := 0, slots := 0, locals := 22 }
set_option maxRecDepth 100000 in
set_option maxHeartbeats 8000000 in
theorem c_X5_isWholeHeard (l : Launch) (D : va_G) (y : Nat → ClassId) (z : Nat → Nat) (a : Nat → Nat) (rc : Int) (is_ : Int → Int) (pd : Int → Int) (pn : Int) (ho : Int → Int) (eh : Int → Int) (mv : Int → Int) (at_ : Int) (tk : Int) (fs : Int) (lt : Int) (ea : Int) (stf : Int → Int) (kpf : Int → Int) (hsf : Int → Int) (slf : Int → Int) (x1 : Int) (fu : Nat) (rr : Int) (h_ : f_X5_isWholeHeard fu eh stf x1 = some rr) : jCI l D y z yX5_isWholeHeard wsX5_isWholeHeard rm_X5_isWholeHeard [.ref (a 0), .int (jI x1)] [(wMo y a rc is_ pd pn ho eh mv at_ tk fs lt ea), (wAr y (a 6) 205 stf), (wAr y (a 7) 205 kpf), (wAr y (a 8) 1230 hsf), (wAr y (a 9) 410 slf)] [(wMo y a rc is_ pd pn ho eh mv at_ tk fs lt ea), (wAr y (a 6) 205 stf), (wAr y (a 7) 205 kpf), (wAr y (a 8) 1230 hsf), (wAr y (a 9) 410 slf)] rr := by
  intro sz
  refine jmet (Qc := (fun A => va_Qi (fun v (_ : Unit) => v = jI rr) (jB D A [(wMo y a rc is_ pd pn ho eh mv at_ tk fs lt ea), (wAr y (a 6) 205 stf), (wAr y (a 7) 205 kpf), (wAr y (a 8) 1230 hsf), (wAr y (a 9) 410 slf)]) A)) (cc := cX5_isWholeHeard) (maxL := 4) (ret := (some .boolean)) (own := RX5) (by decide) rfl (Nat.le_of_ble_eq_true rfl) rfl (fun p e s m R args below meth c A ls hR_ hargs_ hx_ hb_ hr_ hlocks_ hml_ hown_ hts_ hname_ hsz_ hP_ hD_ hA_ hM_ hl_ => ?_)
  have key_ : ∀ Q : State → Prop, (∀ (v9 : Int) (H : Heap) (locs : List Loc) (pc : Nat) (ls : Array Slot), some v9 = some rr → (v9 = 0 ∨ v9 = 1) → decode cX5_isWholeHeard pc = .ok (.ireturn, 1) → va_P D vwCl [(wMo y a rc is_ pd pn ho eh mv at_ tk fs lt ea), (wAr y (a 6) 205 stf), (wAr y (a 7) 205 kpf), (wAr y (a 8) 1230 hsf), (wAr y (a 9) 410 slf)].flatten H → va_D A [(wMo y a rc is_ pd pn ho eh mv at_ tk fs lt ea), (wAr y (a 6) 205 stf), (wAr y (a 7) 205 kpf), (wAr y (a 8) 1230 hsf), (wAr y (a 9) 410 slf)].flatten → va_S A s.heap H locs → W p l e R s m args below meth c H locs 0 0 Q (F0 m pc ls [.int (jI v9)])) → W p l e R s m args below meth c s.heap [] 0 0 Q (F0 m 0 ls []) := by
    intro Q hE_
    have hS_ : va_S A s.heap s.heap [] := va_S.rf
    have hl_ : lv_has ls 4 [(0, .ref (a 0)), (1, .int (jI x1))] := hl_
    have hin_ : ∀ w ∈ u_ws RX5 TX5 16, w ∈ wsX5_isWholeHeard := by decide +kernel
    unfold f_X5_isWholeHeard at h_
    refine lv_iconst (v := jI 1) hx_ hb_ dX5_isWholeHeard_0 (by decide +kernel) ?_
    refine lv_istore_n (lv' := [(2, .int (jI 1)), (0, .ref (a 0)), (1, .int (jI x1))]) hx_ hb_ dX5_isWholeHeard_1 rfl hl_ (by decide) rfl (fun ls hl_ => ?_)
    refine lv_aload_n hx_ hb_ dX5_isWholeHeard_2 rfl (lv_at hl_ 1 rfl) ?_
    refine lv_iload_n hx_ hb_ dX5_isWholeHeard_3 rfl (lv_at hl_ 2 rfl) ?_
    refine lv_iconst (v := jI 1) hx_ hb_ dX5_isWholeHeard_4 (by decide +kernel) ?_
    obtain ⟨v1, hv1, h_⟩ := jb_i h_
    refine jx_cvi (wr := []) (cw := [(wMo y a rc is_ pd pn ho eh mv at_ tk fs lt ea), (wAr y (a 6) 205 stf), (wAr y (a 7) 205 kpf), (wAr y (a 8) 1230 hsf), (wAr y (a 9) 410 slf)]) (cw1 := [(wMo y a rc is_ pd pn ho eh mv at_ tk fs lt ea), (wAr y (a 6) 205 stf), (wAr y (a 7) 205 kpf), (wAr y (a 8) 1230 hsf), (wAr y (a 9) 410 slf)]) (cs1 := [(wMo y a rc is_ pd pn ho eh mv at_ tk fs lt ea), (wAr y (a 6) 205 stf), (wAr y (a 7) 205 kpf), (wAr y (a 8) 1230 hsf), (wAr y (a 9) 410 slf)]) (As := [.int (jI x1), .int (jI 1)]) (rest := []) ⟨hx_, hb_, hml_, hown_, hts_⟩ hM_ hP_ hD_ hS_ hA_ (List.Perm.refl _) (List.Perm.refl _) (c_X5_part l D y z a rc is_ pd pn ho eh mv at_ tk fs lt ea stf kpf hsf slf x1 1 fu v1 hv1) 2 gX5_isWholeHeard_X5_part rfl ⟨rfl, rfl⟩ (by decide +kernel) ⟨by rw [hR_]; exact Nat.le_of_ble_eq_true rfl, by rw [hR_]; exact Nat.le_of_ble_eq_true rfl⟩ 0 5 rfl rfl rfl rfl rfl hl_.1 (Nat.le_of_ble_eq_true rfl) dX5_isWholeHeard_5 ⟨Nat.zero_le _, Nat.zero_le _⟩ (fun H locs hP_ hD_ hS_ => ?_)
    refine lv_istore_n (lv' := [(3, .int (jI v1)), (2, .int (jI 1)), (0, .ref (a 0)), (1, .int (jI x1))]) hx_ hb_ dX5_isWholeHeard_8 rfl hl_ (by decide) rfl (fun ls hl_ => ?_)
    have hX49 : ∀ (v2 : Int) (H : Heap) (locs : List Loc) (ls : Array Slot), f_X5_isWholeHeard_X49 fu v2 = some rr → va_P D vwCl [(wMo y a rc is_ pd pn ho eh mv at_ tk fs lt ea), (wAr y (a 6) 205 stf), (wAr y (a 7) 205 kpf), (wAr y (a 8) 1230 hsf), (wAr y (a 9) 410 slf)].flatten H → va_D A [(wMo y a rc is_ pd pn ho eh mv at_ tk fs lt ea), (wAr y (a 6) 205 stf), (wAr y (a 7) 205 kpf), (wAr y (a 8) 1230 hsf), (wAr y (a 9) 410 slf)].flatten → va_S A s.heap H locs → lv_has ls 4 [(2, .int (jI v2))] → W p l e R s m args below meth c H locs 0 0 Q (F0 m 49 ls []) := by
      intro v2 H locs ls h_ hP_ hD_ hS_ hl_
      unfold f_X5_isWholeHeard_X49 at h_
      refine lv_iload_n hx_ hb_ dX5_isWholeHeard_49 rfl (lv_at hl_ 0 rfl) ?_
      obtain ⟨hz_, h_⟩ := jbo_i h_
      exact hE_ _ _ _ _ _ h_ hz_ dX5_isWholeHeard_50 hP_ hD_ hS_
    have hL9 : ∀ n9 : Nat, ∀ (v3 : Int) (v4 : Int) (H : Heap) (locs : List Loc) (ls : Array Slot), f_X5_isWholeHeard_L9 fu eh stf x1 (f_X5_isWholeHeard_X49 fu) n9 v3 v4 = some rr → va_P D vwCl [(wMo y a rc is_ pd pn ho eh mv at_ tk fs lt ea), (wAr y (a 6) 205 stf), (wAr y (a 7) 205 kpf), (wAr y (a 8) 1230 hsf), (wAr y (a 9) 410 slf)].flatten H → va_D A [(wMo y a rc is_ pd pn ho eh mv at_ tk fs lt ea), (wAr y (a 6) 205 stf), (wAr y (a 7) 205 kpf), (wAr y (a 8) 1230 hsf), (wAr y (a 9) 410 slf)].flatten → va_S A s.heap H locs → lv_has ls 4 [(0, .ref (a 0)), (1, .int (jI x1)), (2, .int (jI v3)), (3, .int (jI v4))] → W p l e R s m args below meth c H locs 0 0 Q (F0 m 9 ls []) := by
      intro n9
      induction n9 with
      | zero => intro _ _ H locs ls h_; have h_ : (none : Option (Int)) = some rr := h_; cases h_
      | succ n9 ih9 =>
        intro v3 v4 H locs ls h_ hP_ hD_ hS_ hl_
        replace h_ : f_X5_isWholeHeard_L9_b fu eh stf x1 (f_X5_isWholeHeard_X49 fu) (f_X5_isWholeHeard_L9 fu eh stf x1 (f_X5_isWholeHeard_X49 fu) n9) v3 v4 = some rr := h_
        unfold f_X5_isWholeHeard_L9_b at h_
        refine lv_iload_n hx_ hb_ dX5_isWholeHeard_9 rfl (lv_at hl_ 3 rfl) ?_
        refine lv_aload_n hx_ hb_ dX5_isWholeHeard_10 rfl (lv_at hl_ 0 rfl) ?_
        refine lv_iload_n hx_ hb_ dX5_isWholeHeard_11 rfl (lv_at hl_ 1 rfl) ?_
        refine lv_iconst (v := jI 2) hx_ hb_ dX5_isWholeHeard_12 (by decide +kernel) ?_
        obtain ⟨v5, hv5, h_⟩ := jb_i h_
        refine jx_cvi (wr := []) (cw := [(wMo y a rc is_ pd pn ho eh mv at_ tk fs lt ea), (wAr y (a 6) 205 stf), (wAr y (a 7) 205 kpf), (wAr y (a 8) 1230 hsf), (wAr y (a 9) 410 slf)]) (cw1 := [(wMo y a rc is_ pd pn ho eh mv at_ tk fs lt ea), (wAr y (a 6) 205 stf), (wAr y (a 7) 205 kpf), (wAr y (a 8) 1230 hsf), (wAr y (a 9) 410 slf)]) (cs1 := [(wMo y a rc is_ pd pn ho eh mv at_ tk fs lt ea), (wAr y (a 6) 205 stf), (wAr y (a 7) 205 kpf), (wAr y (a 8) 1230 hsf), (wAr y (a 9) 410 slf)]) (As := [.int (jI x1), .int (jI 2)]) (rest := [.int (jI v4)]) ⟨hx_, hb_, hml_, hown_, hts_⟩ hM_ hP_ hD_ hS_ hA_ (List.Perm.refl _) (List.Perm.refl _) (c_X5_part l D y z a rc is_ pd pn ho eh mv at_ tk fs lt ea stf kpf hsf slf x1 2 fu v5 hv5) 2 gX5_isWholeHeard_X5_part rfl ⟨rfl, rfl⟩ (by decide +kernel) ⟨by rw [hR_]; exact Nat.le_of_ble_eq_true rfl, by rw [hR_]; exact Nat.le_of_ble_eq_true rfl⟩ 0 5 rfl rfl rfl rfl rfl hl_.1 (Nat.le_of_ble_eq_true rfl) dX5_isWholeHeard_13 ⟨Nat.zero_le _, Nat.zero_le _⟩ (fun H locs hP_ hD_ hS_ => ?_)
        refine jx_icmp_gt (tgt := 49) hx_ hb_ h_ dX5_isWholeHeard_16 (by decide) (fun h_ => ?_) (fun h_ => ?_)
        · exact hX49 _ _ _ ls h_ hP_ hD_ hS_ (lv_sub hl_ [2] rfl)
        · refine lv_iload_n hx_ hb_ dX5_isWholeHeard_19 rfl (lv_at hl_ 2 rfl) ?_
          refine jx_if_eq (tgt := 41) hx_ hb_ h_ dX5_isWholeHeard_20 (by decide) (fun h_ => ?_) (fun h_ => ?_)
          · refine lv_iconst (v := jI 0) hx_ hb_ dX5_isWholeHeard_41 (by decide +kernel) ?_
            refine lv_istore_n (lv' := [(2, .int (jI 0)), (0, .ref (a 0)), (1, .int (jI x1)), (3, .int (jI v4))]) hx_ hb_ dX5_isWholeHeard_42 rfl hl_ (by decide) rfl (fun ls hl_ => ?_)
            refine lv_iinc (v := jI (v4 + 1)) (lv' := [(3, .int (jI (v4 + 1))), (2, .int (jI 0)), (0, .ref (a 0)), (1, .int (jI x1))]) hx_ hb_ dX5_isWholeHeard_43 hl_ (k := 3) rfl (jI_add _ _) (by decide) rfl (fun ls hl_ => ?_)
            refine lv_goto (tgt := 9) hx_ hb_ dX5_isWholeHeard_46 (by decide) ?_
            exact ih9 _ _ _ _ ls h_ hP_ hD_ hS_ (lv_sub hl_ [2, 3, 1, 0] rfl)
          · refine lv_aload_n hx_ hb_ dX5_isWholeHeard_23 rfl (lv_at hl_ 0 rfl) ?_
            refine lv_aload_n hx_ hb_ dX5_isWholeHeard_24 rfl (lv_at hl_ 0 rfl) ?_
            refine lv_iload_n hx_ hb_ dX5_isWholeHeard_25 rfl (lv_at hl_ 1 rfl) ?_
            refine lv_iconst (v := jI 0) hx_ hb_ dX5_isWholeHeard_26 (by decide +kernel) ?_
            obtain ⟨v6, hv6, h_⟩ := jb_i h_
            refine jx_cvi (wr := []) (cw := [(wMo y a rc is_ pd pn ho eh mv at_ tk fs lt ea), (wAr y (a 6) 205 stf), (wAr y (a 7) 205 kpf), (wAr y (a 8) 1230 hsf), (wAr y (a 9) 410 slf)]) (cw1 := [(wMo y a rc is_ pd pn ho eh mv at_ tk fs lt ea), (wAr y (a 6) 205 stf), (wAr y (a 7) 205 kpf), (wAr y (a 8) 1230 hsf), (wAr y (a 9) 410 slf)]) (cs1 := [(wMo y a rc is_ pd pn ho eh mv at_ tk fs lt ea), (wAr y (a 6) 205 stf), (wAr y (a 7) 205 kpf), (wAr y (a 8) 1230 hsf), (wAr y (a 9) 410 slf)]) (As := [.int (jI x1), .int (jI 0)]) (rest := [.ref (a 0)]) ⟨hx_, hb_, hml_, hown_, hts_⟩ hM_ hP_ hD_ hS_ hA_ (List.Perm.refl _) (List.Perm.refl _) (c_X5_part l D y z a rc is_ pd pn ho eh mv at_ tk fs lt ea stf kpf hsf slf x1 0 fu v6 hv6) 2 gX5_isWholeHeard_X5_part rfl ⟨rfl, rfl⟩ (by decide +kernel) ⟨by rw [hR_]; exact Nat.le_of_ble_eq_true rfl, by rw [hR_]; exact Nat.le_of_ble_eq_true rfl⟩ 0 5 rfl rfl rfl rfl rfl hl_.1 (Nat.le_of_ble_eq_true rfl) dX5_isWholeHeard_27 ⟨Nat.zero_le _, Nat.zero_le _⟩ (fun H locs hP_ hD_ hS_ => ?_)
            refine lv_iload_n hx_ hb_ dX5_isWholeHeard_30 rfl (lv_at hl_ 3 rfl) ?_
            obtain ⟨v7, hv7, h_⟩ := jb_i h_
            refine jx_cvi (wr := []) (cw := [(wMo y a rc is_ pd pn ho eh mv at_ tk fs lt ea), (wAr y (a 6) 205 stf), (wAr y (a 7) 205 kpf), (wAr y (a 8) 1230 hsf), (wAr y (a 9) 410 slf)]) (cw1 := [(wMo y a rc is_ pd pn ho eh mv at_ tk fs lt ea), (wAr y (a 6) 205 stf), (wAr y (a 7) 205 kpf), (wAr y (a 8) 1230 hsf), (wAr y (a 9) 410 slf)]) (cs1 := [(wMo y a rc is_ pd pn ho eh mv at_ tk fs lt ea), (wAr y (a 6) 205 stf), (wAr y (a 7) 205 kpf), (wAr y (a 8) 1230 hsf), (wAr y (a 9) 410 slf)]) (As := [.int (jI v6), .int (jI v4)]) (rest := []) ⟨hx_, hb_, hml_, hown_, hts_⟩ hM_ hP_ hD_ hS_ hA_ (List.Perm.refl _) (List.Perm.refl _) (c_X5_isHeard l D y z a rc is_ pd pn ho eh mv at_ tk fs lt ea stf kpf hsf slf v6 v4 fu v7 hv7) 2 gX5_isWholeHeard_X5_isHeard rfl ⟨rfl, rfl⟩ (by decide +kernel) ⟨by rw [hR_]; exact Nat.le_of_ble_eq_true rfl, by rw [hR_]; exact Nat.le_of_ble_eq_true rfl⟩ 0 5 rfl rfl rfl rfl rfl hl_.1 (Nat.le_of_ble_eq_true rfl) dX5_isWholeHeard_31 ⟨Nat.zero_le _, Nat.zero_le _⟩ (fun H locs hP_ hD_ hS_ => ?_)
            refine jx_if_eq (tgt := 41) hx_ hb_ h_ dX5_isWholeHeard_34 (by decide) (fun h_ => ?_) (fun h_ => ?_)
            · refine lv_iconst (v := jI 0) hx_ hb_ dX5_isWholeHeard_41 (by decide +kernel) ?_
              refine lv_istore_n (lv' := [(2, .int (jI 0)), (0, .ref (a 0)), (1, .int (jI x1)), (3, .int (jI v4))]) hx_ hb_ dX5_isWholeHeard_42 rfl hl_ (by decide) rfl (fun ls hl_ => ?_)
              refine lv_iinc (v := jI (v4 + 1)) (lv' := [(3, .int (jI (v4 + 1))), (2, .int (jI 0)), (0, .ref (a 0)), (1, .int (jI x1))]) hx_ hb_ dX5_isWholeHeard_43 hl_ (k := 3) rfl (jI_add _ _) (by decide) rfl (fun ls hl_ => ?_)
              refine lv_goto (tgt := 9) hx_ hb_ dX5_isWholeHeard_46 (by decide) ?_
              exact ih9 _ _ _ _ ls h_ hP_ hD_ hS_ (lv_sub hl_ [2, 3, 1, 0] rfl)
            · refine lv_iconst (v := jI 1) hx_ hb_ dX5_isWholeHeard_37 (by decide +kernel) ?_
              refine lv_goto (tgt := 42) hx_ hb_ dX5_isWholeHeard_38 (by decide) ?_
              refine lv_istore_n (lv' := [(2, .int (jI 1)), (0, .ref (a 0)), (1, .int (jI x1)), (3, .int (jI v4))]) hx_ hb_ dX5_isWholeHeard_42 rfl hl_ (by decide) rfl (fun ls hl_ => ?_)
              refine lv_iinc (v := jI (v4 + 1)) (lv' := [(3, .int (jI (v4 + 1))), (2, .int (jI 1)), (0, .ref (a 0)), (1, .int (jI x1))]) hx_ hb_ dX5_isWholeHeard_43 hl_ (k := 3) rfl (jI_add _ _) (by decide) rfl (fun ls hl_ => ?_)
              refine lv_goto (tgt := 9) hx_ hb_ dX5_isWholeHeard_46 (by decide) ?_
              exact ih9 _ _ _ _ ls h_ hP_ hD_ hS_ (lv_sub hl_ [2, 3, 1, 0] rfl)
    exact hL9 fu _ _ _ _ ls h_ hP_ hD_ hS_ (lv_sub hl_ [2, 3, 1, 0] rfl)
  exact key_ _ (fun v9 H locs pc ls h9_ hz_ hdg_ hP_ hD_ hS_ => by cases h9_; exact jend_z hx_ hb_ hr_ hlocks_ hz_ hP_ hD_ hS_ hdg_)
def rm_X5_withGap : Room := { frames := 4, cells := 0, slots := 0, locals := 90 }
set_option maxRecDepth 100000 in
set_option maxHeartbeats 8000000 in
theorem c_X5_withGap (l : Launch) (D : va_G) (y : Nat → ClassId) (z : Nat → Nat) (a : Nat → Nat) (rc : Int) (is_ : Int → Int) (pd : Int → Int) (pn : Int) (ho : Int → Int) (eh : Int → Int) (mv : Int → Int) (at_ : Int) (tk : Int) (fs : Int) (lt : Int) (ea : Int) (stf : Int → Int) (kpf : Int → Int) (hsf : Int → Int) (slf : Int → Int)  (fu : Nat) (rr : Int) (q_ho : Int → Int) (q_eh : Int → Int) (h_ : f_X5_withGap fu ho eh stf = some (rr, q_ho, q_eh)) : jCI l D y z yX5_withGap wsX5_withGap rm_X5_withGap [.ref (a 0)] [(wMo y a rc is_ pd pn ho eh mv at_ tk fs lt ea), (wAr y (a 6) 205 stf), (wAr y (a 7) 205 kpf), (wAr y (a 8) 1230 hsf), (wAr y (a 9) 410 slf)] [(wMo y a rc is_ pd pn q_ho q_eh mv at_ tk fs lt ea), (wAr y (a 6) 205 stf), (wAr y (a 7) 205 kpf), (wAr y (a 8) 1230 hsf), (wAr y (a 9) 410 slf)] rr := by
  intro sz
  refine jmet (Qc := (fun A => va_Qi (fun v (_ : Unit) => v = jI rr) (jB D A [(wMo y a rc is_ pd pn q_ho q_eh mv at_ tk fs lt ea), (wAr y (a 6) 205 stf), (wAr y (a 7) 205 kpf), (wAr y (a 8) 1230 hsf), (wAr y (a 9) 410 slf)]) A)) (cc := cX5_withGap) (maxL := 3) (ret := (some .int)) (own := RX5) (by decide) rfl (Nat.le_of_ble_eq_true rfl) rfl (fun p e s m R args below meth c A ls hR_ hargs_ hx_ hb_ hr_ hlocks_ hml_ hown_ hts_ hname_ hsz_ hP_ hD_ hA_ hM_ hl_ => ?_)
  have key_ : ∀ Q : State → Prop, (∀ (v9 : Int) (ho9 : Int → Int) (eh9 : Int → Int) (H : Heap) (locs : List Loc) (pc : Nat) (ls : Array Slot), some (v9, ho9, eh9) = some (rr, q_ho, q_eh) → decode cX5_withGap pc = .ok (.ireturn, 1) → va_P D vwCl [(wMo y a rc is_ pd pn ho9 eh9 mv at_ tk fs lt ea), (wAr y (a 6) 205 stf), (wAr y (a 7) 205 kpf), (wAr y (a 8) 1230 hsf), (wAr y (a 9) 410 slf)].flatten H → va_D A [(wMo y a rc is_ pd pn ho9 eh9 mv at_ tk fs lt ea), (wAr y (a 6) 205 stf), (wAr y (a 7) 205 kpf), (wAr y (a 8) 1230 hsf), (wAr y (a 9) 410 slf)].flatten → va_S A s.heap H locs → W p l e R s m args below meth c H locs 0 0 Q (F0 m pc ls [.int (jI v9)])) → W p l e R s m args below meth c s.heap [] 0 0 Q (F0 m 0 ls []) := by
    intro Q hE_
    have hS_ : va_S A s.heap s.heap [] := va_S.rf
    have hl_ : lv_has ls 3 [(0, .ref (a 0))] := hl_
    have hin_ : ∀ w ∈ u_ws RX5 TX5 16, w ∈ wsX5_withGap := by decide +kernel
    unfold f_X5_withGap at h_
    refine lv_aload_n hx_ hb_ dX5_withGap_0 rfl (lv_at hl_ 0 rfl) ?_
    obtain ⟨ho_m1, eh_m2, hho_m1, h_⟩ := jb2_i h_
    refine jx_cvv (rv := 0) (wr := []) (cw := [(wMo y a rc is_ pd pn ho eh mv at_ tk fs lt ea), (wAr y (a 6) 205 stf), (wAr y (a 7) 205 kpf), (wAr y (a 8) 1230 hsf), (wAr y (a 9) 410 slf)]) (cw1 := [(wMo y a rc is_ pd pn ho_m1 eh_m2 mv at_ tk fs lt ea), (wAr y (a 6) 205 stf), (wAr y (a 7) 205 kpf), (wAr y (a 8) 1230 hsf), (wAr y (a 9) 410 slf)]) (cs1 := [(wMo y a rc is_ pd pn ho_m1 eh_m2 mv at_ tk fs lt ea), (wAr y (a 6) 205 stf), (wAr y (a 7) 205 kpf), (wAr y (a 8) 1230 hsf), (wAr y (a 9) 410 slf)]) (As := []) (rest := []) ⟨hx_, hb_, hml_, hown_, hts_⟩ hM_ hP_ hD_ hS_ hA_ (List.Perm.refl _) (List.Perm.refl _) (c_X5_findHeard l D y z a rc is_ pd pn ho eh mv at_ tk fs lt ea stf kpf hsf slf fu ho_m1 eh_m2 hho_m1) 0 gX5_withGap_X5_findHeard rfl ⟨rfl, rfl⟩ (by decide +kernel) ⟨by rw [hR_]; exact Nat.le_of_ble_eq_true rfl, by rw [hR_]; exact Nat.le_of_ble_eq_true rfl⟩ 0 5 rfl rfl rfl rfl rfl hl_.1 (Nat.le_of_ble_eq_true rfl) dX5_withGap_1 ⟨Nat.zero_le _, Nat.zero_le _⟩ (fun H locs hP_ hD_ hS_ => ?_)
    refine lv_iconst (v := jI 0) hx_ hb_ dX5_withGap_4 (by decide +kernel) ?_
    refine lv_istore_n (lv' := [(1, .int (jI 0)), (0, .ref (a 0))]) hx_ hb_ dX5_withGap_5 rfl hl_ (by decide) rfl (fun ls hl_ => ?_)
    refine lv_iconst (v := jI 0) hx_ hb_ dX5_withGap_6 (by decide +kernel) ?_
    refine lv_istore_n (lv' := [(2, .int (jI 0)), (1, .int (jI 0)), (0, .ref (a 0))]) hx_ hb_ dX5_withGap_7 rfl hl_ (by decide) rfl (fun ls hl_ => ?_)
    have hX40 : ∀ (v3 : Int) (H : Heap) (locs : List Loc) (ls : Array Slot), f_X5_withGap_X40 fu ho_m1 eh_m2 v3 = some (rr, q_ho, q_eh) → va_P D vwCl [(wMo y a rc is_ pd pn ho_m1 eh_m2 mv at_ tk fs lt ea), (wAr y (a 6) 205 stf), (wAr y (a 7) 205 kpf), (wAr y (a 8) 1230 hsf), (wAr y (a 9) 410 slf)].flatten H → va_D A [(wMo y a rc is_ pd pn ho_m1 eh_m2 mv at_ tk fs lt ea), (wAr y (a 6) 205 stf), (wAr y (a 7) 205 kpf), (wAr y (a 8) 1230 hsf), (wAr y (a 9) 410 slf)].flatten → va_S A s.heap H locs → lv_has ls 3 [(1, .int (jI v3))] → W p l e R s m args below meth c H locs 0 0 Q (F0 m 40 ls []) := by
      intro v3 H locs ls h_ hP_ hD_ hS_ hl_
      unfold f_X5_withGap_X40 at h_
      refine lv_iload_n hx_ hb_ dX5_withGap_40 rfl (lv_at hl_ 0 rfl) ?_
      exact hE_ _ _ _ _ _ _ _ h_ dX5_withGap_41 hP_ hD_ hS_
    have hL8 : ∀ n8 : Nat, ∀ (v4 : Int) (v5 : Int) (H : Heap) (locs : List Loc) (ls : Array Slot), f_X5_withGap_L8 fu stf eh_m2 (f_X5_withGap_X40 fu ho_m1 eh_m2) n8 v4 v5 = some (rr, q_ho, q_eh) → va_P D vwCl [(wMo y a rc is_ pd pn ho_m1 eh_m2 mv at_ tk fs lt ea), (wAr y (a 6) 205 stf), (wAr y (a 7) 205 kpf), (wAr y (a 8) 1230 hsf), (wAr y (a 9) 410 slf)].flatten H → va_D A [(wMo y a rc is_ pd pn ho_m1 eh_m2 mv at_ tk fs lt ea), (wAr y (a 6) 205 stf), (wAr y (a 7) 205 kpf), (wAr y (a 8) 1230 hsf), (wAr y (a 9) 410 slf)].flatten → va_S A s.heap H locs → lv_has ls 3 [(0, .ref (a 0)), (1, .int (jI v4)), (2, .int (jI v5))] → W p l e R s m args below meth c H locs 0 0 Q (F0 m 8 ls []) := by
      intro n8
      induction n8 with
      | zero => intro _ _ H locs ls h_; have h_ : (none : Option (Int × (Int → Int) × (Int → Int))) = some (rr, q_ho, q_eh) := h_; cases h_
      | succ n8 ih8 =>
        intro v4 v5 H locs ls h_ hP_ hD_ hS_ hl_
        replace h_ : f_X5_withGap_L8_b fu stf eh_m2 (f_X5_withGap_X40 fu ho_m1 eh_m2) (f_X5_withGap_L8 fu stf eh_m2 (f_X5_withGap_X40 fu ho_m1 eh_m2) n8) v4 v5 = some (rr, q_ho, q_eh) := h_
        unfold f_X5_withGap_L8_b at h_
        refine lv_iload_n hx_ hb_ dX5_withGap_8 rfl (lv_at hl_ 2 rfl) ?_
        refine lv_aload_n hx_ hb_ dX5_withGap_9 rfl (lv_at hl_ 0 rfl) ?_
        refine va_get (D := D) (ci := 5) (v := .ref (a 6)) (C := RX5) (T := TX5) (N := 16) hx_ hb_ hts_ hin_ hown_ hM_.1 hP_ 0 rfl rfl 0 (by decide) (hts_ (.fieldLink RX5 7 "MusicHolesModel" "state" "[I") (by decide +kernel)) (fun _ h9_ => h9_) rfl dX5_withGap_10 ?_
        refine lv_iconst (v := jI 4) hx_ hb_ dX5_withGap_13 (by decide +kernel) ?_
        refine jx_iald hx_ hb_ hM_ hP_ 6 0 rfl rfl rfl (Nat.le_of_ble_eq_true rfl) h_ dX5_withGap_14 (fun h_ => ?_)
        refine jx_icmp_ge (tgt := 40) hx_ hb_ h_ dX5_withGap_15 (by decide) (fun h_ => ?_) (fun h_ => ?_)
        · exact hX40 _ _ _ ls h_ hP_ hD_ hS_ (lv_sub hl_ [1] rfl)
        · refine lv_iload_n hx_ hb_ dX5_withGap_18 rfl (lv_at hl_ 1 rfl) ?_
          refine lv_aload_n hx_ hb_ dX5_withGap_19 rfl (lv_at hl_ 0 rfl) ?_
          refine lv_iload_n hx_ hb_ dX5_withGap_20 rfl (lv_at hl_ 2 rfl) ?_
          obtain ⟨v6, hv6, h_⟩ := jb_i h_
          refine jx_cvi (wr := []) (cw := [(wMo y a rc is_ pd pn ho_m1 eh_m2 mv at_ tk fs lt ea), (wAr y (a 6) 205 stf), (wAr y (a 7) 205 kpf), (wAr y (a 8) 1230 hsf), (wAr y (a 9) 410 slf)]) (cw1 := [(wMo y a rc is_ pd pn ho_m1 eh_m2 mv at_ tk fs lt ea), (wAr y (a 6) 205 stf), (wAr y (a 7) 205 kpf), (wAr y (a 8) 1230 hsf), (wAr y (a 9) 410 slf)]) (cs1 := [(wMo y a rc is_ pd pn ho_m1 eh_m2 mv at_ tk fs lt ea), (wAr y (a 6) 205 stf), (wAr y (a 7) 205 kpf), (wAr y (a 8) 1230 hsf), (wAr y (a 9) 410 slf)]) (As := [.int (jI v5)]) (rest := [.int (jI v4)]) ⟨hx_, hb_, hml_, hown_, hts_⟩ hM_ hP_ hD_ hS_ hA_ (List.Perm.refl _) (List.Perm.refl _) (c_X5_isWholeHeard l D y z a rc is_ pd pn ho_m1 eh_m2 mv at_ tk fs lt ea stf kpf hsf slf v5 fu v6 hv6) 1 gX5_withGap_X5_isWholeHeard rfl ⟨rfl, rfl⟩ (by decide +kernel) ⟨by rw [hR_]; exact Nat.le_of_ble_eq_true rfl, by rw [hR_]; exact Nat.le_of_ble_eq_true rfl⟩ 0 5 rfl rfl rfl rfl rfl hl_.1 (Nat.le_of_ble_eq_true rfl) dX5_withGap_21 ⟨Nat.zero_le _, Nat.zero_le _⟩ (fun H locs hP_ hD_ hS_ => ?_)
          refine jx_if_eq (tgt := 31) hx_ hb_ h_ dX5_withGap_24 (by decide) (fun h_ => ?_) (fun h_ => ?_)
          · refine lv_iconst (v := jI 1) hx_ hb_ dX5_withGap_31 (by decide +kernel) ?_
            refine jx_iadd hx_ hb_ dX5_withGap_32 ?_
            refine lv_istore_n (lv' := [(1, .int (jI (v4 + 1))), (0, .ref (a 0)), (2, .int (jI v5))]) hx_ hb_ dX5_withGap_33 rfl hl_ (by decide) rfl (fun ls hl_ => ?_)
            refine lv_iinc (v := jI (v5 + 1)) (lv' := [(2, .int (jI (v5 + 1))), (1, .int (jI (v4 + 1))), (0, .ref (a 0))]) hx_ hb_ dX5_withGap_34 hl_ (k := 2) rfl (jI_add _ _) (by decide) rfl (fun ls hl_ => ?_)
            refine lv_goto (tgt := 8) hx_ hb_ dX5_withGap_37 (by decide) ?_
            exact ih8 _ _ _ _ ls h_ hP_ hD_ hS_ (lv_sub hl_ [2, 1, 0] rfl)
          · refine lv_iconst (v := jI 0) hx_ hb_ dX5_withGap_27 (by decide +kernel) ?_
            refine lv_goto (tgt := 32) hx_ hb_ dX5_withGap_28 (by decide) ?_
            refine jx_iadd hx_ hb_ dX5_withGap_32 ?_
            refine lv_istore_n (lv' := [(1, .int (jI (v4 + 0))), (0, .ref (a 0)), (2, .int (jI v5))]) hx_ hb_ dX5_withGap_33 rfl hl_ (by decide) rfl (fun ls hl_ => ?_)
            refine lv_iinc (v := jI (v5 + 1)) (lv' := [(2, .int (jI (v5 + 1))), (1, .int (jI (v4 + 0))), (0, .ref (a 0))]) hx_ hb_ dX5_withGap_34 hl_ (k := 2) rfl (jI_add _ _) (by decide) rfl (fun ls hl_ => ?_)
            refine lv_goto (tgt := 8) hx_ hb_ dX5_withGap_37 (by decide) ?_
            exact ih8 _ _ _ _ ls h_ hP_ hD_ hS_ (lv_sub hl_ [2, 1, 0] rfl)
    exact hL8 fu _ _ _ _ ls h_ hP_ hD_ hS_ (lv_sub hl_ [2, 1, 0] rfl)
  exact key_ _ (fun v9 ho9 eh9 H locs pc ls h9_ hdg_ hP_ hD_ hS_ => by cases h9_; exact jend_i hx_ hb_ hr_ hlocks_ hP_ hD_ hS_ hdg_)
def rm_X5_isValue : Room := { frames := 1, cells := 0, slots := 0, locals := 22 }
set_option maxRecDepth 100000 in
set_option maxHeartbeats 8000000 in
theorem c_X5_isValue (l : Launch) (D : va_G) (y : Nat → ClassId) (z : Nat → Nat)   (x0 : Int) (x1 : Int) (fu : Nat) (rr : Int) (h_ : f_X5_isValue fu x0 x1 = some rr) : jCI l D y z yX5_isValue wsX5_isValue rm_X5_isValue [.int (jI x0), .int (jI x1)] [] [] rr := by
  intro sz
  refine jmet (Qc := (fun A => va_Qi (fun v (_ : Unit) => v = jI rr) (jB D A []) A)) (cc := cX5_isValue) (maxL := 2) (ret := (some .boolean)) (own := RX5) (by decide) rfl (Nat.le_of_ble_eq_true rfl) rfl (fun p e s m R args below meth c A ls hR_ hargs_ hx_ hb_ hr_ hlocks_ hml_ hown_ hts_ hname_ hsz_ hP_ hD_ hA_ hM_ hl_ => ?_)
  have key_ : ∀ Q : State → Prop, (∀ (v9 : Int) (H : Heap) (locs : List Loc) (pc : Nat) (ls : Array Slot), some v9 = some rr → (v9 = 0 ∨ v9 = 1) → decode cX5_isValue pc = .ok (.ireturn, 1) → va_P D vwCl [].flatten H → va_D A [].flatten → va_S A s.heap H locs → W p l e R s m args below meth c H locs 0 0 Q (F0 m pc ls [.int (jI v9)])) → W p l e R s m args below meth c s.heap [] 0 0 Q (F0 m 0 ls []) := by
    intro Q hE_
    have hS_ : va_S A s.heap s.heap [] := va_S.rf
    have hl_ : lv_has ls 2 [(0, .int (jI x0)), (1, .int (jI x1))] := hl_
    unfold f_X5_isValue at h_
    refine lv_iload_n hx_ hb_ dX5_isValue_0 rfl (lv_at hl_ 0 rfl) ?_
    obtain ⟨hsw_, -, h_⟩ := jck_i h_
    by_cases csw : x0 = 0
    · rw [if_pos csw] at h_
      refine jx_tabI (tgt := 32) hx_ hb_ hsw_ dX5_isValue_1 0 csw (by decide) (by decide) (by rfl) (by decide) ?_
      refine lv_iload_n hx_ hb_ dX5_isValue_32 rfl (lv_at hl_ 1 rfl) ?_
      refine lv_iconst (v := jI 1) hx_ hb_ dX5_isValue_33 (by decide +kernel) ?_
      refine lv_bipush (v := jI 9) hx_ hb_ dX5_isValue_34 (by decide +kernel) ?_
      obtain ⟨v1, hv1, h_⟩ := jb_i h_
      refine jx_csi (b := 0) (C := "") (wr := []) (cw := []) (cw1 := []) (cs1 := []) (As := [.int (jI x1), .int (jI 1), .int (jI 9)]) (rest := []) ⟨hx_, hb_, hml_, hown_, hts_⟩ hM_ hP_ hD_ hS_ hA_ (List.Perm.refl _) (List.Perm.refl _) (c_X5_within l D y z x1 1 9 fu v1 hv1) 3 (va_cwS 3 hts_ gX5_isValue_X5_within rfl rfl rfl (by decide +kernel) ⟨by rw [hR_]; exact Nat.le_of_ble_eq_true rfl, by rw [hR_]; exact Nat.le_of_ble_eq_true rfl⟩) rfl ⟨rfl, rfl⟩ ⟨by rw [hR_]; exact Nat.le_of_ble_eq_true rfl, by rw [hR_]; exact Nat.le_of_ble_eq_true rfl⟩ rfl rfl hl_.1 (Nat.le_of_ble_eq_true rfl) dX5_isValue_36 ⟨Nat.zero_le _, Nat.zero_le _⟩ (fun H locs hP_ hD_ hS_ => ?_)
      obtain ⟨hz_, h_⟩ := jbo_i h_
      exact hE_ _ _ _ _ _ h_ hz_ dX5_isValue_39 hP_ hD_ hS_
    rw [if_neg csw] at h_
    have csw0 := csw; clear csw
    by_cases csw : x0 = 1
    · rw [if_pos csw] at h_
      refine jx_tabI (tgt := 40) hx_ hb_ hsw_ dX5_isValue_1 1 csw (by decide) (by decide) (by rfl) (by decide) ?_
      refine lv_iload_n hx_ hb_ dX5_isValue_40 rfl (lv_at hl_ 1 rfl) ?_
      refine lv_iconst (v := jI 1) hx_ hb_ dX5_isValue_41 (by decide +kernel) ?_
      refine lv_iconst (v := jI 4) hx_ hb_ dX5_isValue_42 (by decide +kernel) ?_
      obtain ⟨v2, hv2, h_⟩ := jb_i h_
      refine jx_csi (b := 0) (C := "") (wr := []) (cw := []) (cw1 := []) (cs1 := []) (As := [.int (jI x1), .int (jI 1), .int (jI 4)]) (rest := []) ⟨hx_, hb_, hml_, hown_, hts_⟩ hM_ hP_ hD_ hS_ hA_ (List.Perm.refl _) (List.Perm.refl _) (c_X5_within l D y z x1 1 4 fu v2 hv2) 3 (va_cwS 3 hts_ gX5_isValue_X5_within rfl rfl rfl (by decide +kernel) ⟨by rw [hR_]; exact Nat.le_of_ble_eq_true rfl, by rw [hR_]; exact Nat.le_of_ble_eq_true rfl⟩) rfl ⟨rfl, rfl⟩ ⟨by rw [hR_]; exact Nat.le_of_ble_eq_true rfl, by rw [hR_]; exact Nat.le_of_ble_eq_true rfl⟩ rfl rfl hl_.1 (Nat.le_of_ble_eq_true rfl) dX5_isValue_43 ⟨Nat.zero_le _, Nat.zero_le _⟩ (fun H locs hP_ hD_ hS_ => ?_)
      obtain ⟨hz_, h_⟩ := jbo_i h_
      exact hE_ _ _ _ _ _ h_ hz_ dX5_isValue_46 hP_ hD_ hS_
    rw [if_neg csw] at h_
    have csw1 := csw; clear csw
    by_cases csw : x0 = 2
    · rw [if_pos csw] at h_
      refine jx_tabI (tgt := 47) hx_ hb_ hsw_ dX5_isValue_1 2 csw (by decide) (by decide) (by rfl) (by decide) ?_
      refine lv_iload_n hx_ hb_ dX5_isValue_47 rfl (lv_at hl_ 1 rfl) ?_
      refine lv_iconst (v := jI 0) hx_ hb_ dX5_isValue_48 (by decide +kernel) ?_
      refine lv_iconst (v := jI 4) hx_ hb_ dX5_isValue_49 (by decide +kernel) ?_
      obtain ⟨v3, hv3, h_⟩ := jb_i h_
      refine jx_csi (b := 0) (C := "") (wr := []) (cw := []) (cw1 := []) (cs1 := []) (As := [.int (jI x1), .int (jI 0), .int (jI 4)]) (rest := []) ⟨hx_, hb_, hml_, hown_, hts_⟩ hM_ hP_ hD_ hS_ hA_ (List.Perm.refl _) (List.Perm.refl _) (c_X5_within l D y z x1 0 4 fu v3 hv3) 3 (va_cwS 3 hts_ gX5_isValue_X5_within rfl rfl rfl (by decide +kernel) ⟨by rw [hR_]; exact Nat.le_of_ble_eq_true rfl, by rw [hR_]; exact Nat.le_of_ble_eq_true rfl⟩) rfl ⟨rfl, rfl⟩ ⟨by rw [hR_]; exact Nat.le_of_ble_eq_true rfl, by rw [hR_]; exact Nat.le_of_ble_eq_true rfl⟩ rfl rfl hl_.1 (Nat.le_of_ble_eq_true rfl) dX5_isValue_50 ⟨Nat.zero_le _, Nat.zero_le _⟩ (fun H locs hP_ hD_ hS_ => ?_)
      obtain ⟨hz_, h_⟩ := jbo_i h_
      exact hE_ _ _ _ _ _ h_ hz_ dX5_isValue_53 hP_ hD_ hS_
    rw [if_neg csw] at h_
    have csw2 := csw; clear csw
    by_cases csw : x0 = 3
    · rw [if_pos csw] at h_
      refine jx_tabI (tgt := 54) hx_ hb_ hsw_ dX5_isValue_1 3 csw (by decide) (by decide) (by rfl) (by decide) ?_
      refine lv_iload_n hx_ hb_ dX5_isValue_54 rfl (lv_at hl_ 1 rfl) ?_
      refine lv_iconst (v := jI 2) hx_ hb_ dX5_isValue_55 (by decide +kernel) ?_
      refine lv_bipush (v := jI 12) hx_ hb_ dX5_isValue_56 (by decide +kernel) ?_
      obtain ⟨v4, hv4, h_⟩ := jb_i h_
      refine jx_csi (b := 0) (C := "") (wr := []) (cw := []) (cw1 := []) (cs1 := []) (As := [.int (jI x1), .int (jI 2), .int (jI 12)]) (rest := []) ⟨hx_, hb_, hml_, hown_, hts_⟩ hM_ hP_ hD_ hS_ hA_ (List.Perm.refl _) (List.Perm.refl _) (c_X5_within l D y z x1 2 12 fu v4 hv4) 3 (va_cwS 3 hts_ gX5_isValue_X5_within rfl rfl rfl (by decide +kernel) ⟨by rw [hR_]; exact Nat.le_of_ble_eq_true rfl, by rw [hR_]; exact Nat.le_of_ble_eq_true rfl⟩) rfl ⟨rfl, rfl⟩ ⟨by rw [hR_]; exact Nat.le_of_ble_eq_true rfl, by rw [hR_]; exact Nat.le_of_ble_eq_true rfl⟩ rfl rfl hl_.1 (Nat.le_of_ble_eq_true rfl) dX5_isValue_58 ⟨Nat.zero_le _, Nat.zero_le _⟩ (fun H locs hP_ hD_ hS_ => ?_)
      obtain ⟨hz_, h_⟩ := jbo_i h_
      exact hE_ _ _ _ _ _ h_ hz_ dX5_isValue_61 hP_ hD_ hS_
    rw [if_neg csw] at h_
    have csw3 := csw; clear csw
    refine jx_tabO (tgt := 62) hx_ hb_ hsw_ dX5_isValue_1 (by omega) (by decide) ?_
    refine lv_iconst (v := jI 0) hx_ hb_ dX5_isValue_62 (by decide +kernel) ?_
    obtain ⟨hz_, h_⟩ := jbo_i h_
    exact hE_ _ _ _ _ _ h_ hz_ dX5_isValue_63 hP_ hD_ hS_
  exact key_ _ (fun v9 H locs pc ls h9_ hz_ hdg_ hP_ hD_ hS_ => by cases h9_; exact jend_z hx_ hb_ hr_ hlocks_ hz_ hP_ hD_ hS_ hdg_)
def rm_X5_set : Room := { frames := 2, cells := 0, slots := 0, locals := 45 }
set_option maxRecDepth 100000 in
set_option maxHeartbeats 8000000 in
theorem c_X5_set (l : Launch) (D : va_G) (y : Nat → ClassId) (z : Nat → Nat) (a : Nat → Nat) (rc : Int) (is_ : Int → Int) (pd : Int → Int) (pn : Int) (ho : Int → Int) (eh : Int → Int) (mv : Int → Int) (at_ : Int) (tk : Int) (fs : Int) (lt : Int) (ea : Int) (stf : Int → Int) (kpf : Int → Int) (hsf : Int → Int) (slf : Int → Int) (x1 : Int) (x2 : Int) (fu : Nat) (rr : Int) (q_rc : Int) (q_stf : Int → Int) (q_hsf : Int → Int) (h_ : f_X5_set fu rc stf hsf x1 x2 = some (rr, q_rc, q_stf, q_hsf)) : jCI l D y z yX5_set wsX5_set rm_X5_set [.ref (a 0), .int (jI x1), .int (jI x2)] [(wMo y a rc is_ pd pn ho eh mv at_ tk fs lt ea), (wAr y (a 6) 205 stf), (wAr y (a 7) 205 kpf), (wAr y (a 8) 1230 hsf), (wAr y (a 9) 410 slf)] [(wMo y a q_rc is_ pd pn ho eh mv at_ tk fs lt ea), (wAr y (a 6) 205 q_stf), (wAr y (a 7) 205 kpf), (wAr y (a 8) 1230 q_hsf), (wAr y (a 9) 410 slf)] rr := by
  intro sz
  refine jmet (Qc := (fun A => va_Qi (fun v (_ : Unit) => v = jI rr) (jB D A [(wMo y a q_rc is_ pd pn ho eh mv at_ tk fs lt ea), (wAr y (a 6) 205 q_stf), (wAr y (a 7) 205 kpf), (wAr y (a 8) 1230 q_hsf), (wAr y (a 9) 410 slf)]) A)) (cc := cX5_set) (maxL := 4) (ret := (some .int)) (own := RX5) (by decide) rfl (Nat.le_of_ble_eq_true rfl) rfl (fun p e s m R args below meth c A ls hR_ hargs_ hx_ hb_ hr_ hlocks_ hml_ hown_ hts_ hname_ hsz_ hP_ hD_ hA_ hM_ hl_ => ?_)
  have key_ : ∀ Q : State → Prop, (∀ (v9 : Int) (rc9 : Int) (stf9 : Int → Int) (hsf9 : Int → Int) (H : Heap) (locs : List Loc) (pc : Nat) (ls : Array Slot), some (v9, rc9, stf9, hsf9) = some (rr, q_rc, q_stf, q_hsf) → decode cX5_set pc = .ok (.ireturn, 1) → va_P D vwCl [(wMo y a rc9 is_ pd pn ho eh mv at_ tk fs lt ea), (wAr y (a 6) 205 stf9), (wAr y (a 7) 205 kpf), (wAr y (a 8) 1230 hsf9), (wAr y (a 9) 410 slf)].flatten H → va_D A [(wMo y a rc9 is_ pd pn ho eh mv at_ tk fs lt ea), (wAr y (a 6) 205 stf9), (wAr y (a 7) 205 kpf), (wAr y (a 8) 1230 hsf9), (wAr y (a 9) 410 slf)].flatten → va_S A s.heap H locs → W p l e R s m args below meth c H locs 0 0 Q (F0 m pc ls [.int (jI v9)])) → W p l e R s m args below meth c s.heap [] 0 0 Q (F0 m 0 ls []) := by
    intro Q hE_
    have hS_ : va_S A s.heap s.heap [] := va_S.rf
    have hl_ : lv_has ls 4 [(0, .ref (a 0)), (1, .int (jI x1)), (2, .int (jI x2))] := hl_
    have hin_ : ∀ w ∈ u_ws RX5 TX5 16, w ∈ wsX5_set := by decide +kernel
    unfold f_X5_set at h_
    refine lv_iload_n hx_ hb_ dX5_set_0 rfl (lv_at hl_ 1 rfl) ?_
    refine lv_iload_n hx_ hb_ dX5_set_1 rfl (lv_at hl_ 2 rfl) ?_
    obtain ⟨v1, hv1, h_⟩ := jb_i h_
    refine jx_csi (b := 0) (C := "") (wr := [(wMo y a rc is_ pd pn ho eh mv at_ tk fs lt ea), (wAr y (a 6) 205 stf), (wAr y (a 7) 205 kpf), (wAr y (a 8) 1230 hsf), (wAr y (a 9) 410 slf)]) (cw := []) (cw1 := []) (cs1 := [(wMo y a rc is_ pd pn ho eh mv at_ tk fs lt ea), (wAr y (a 6) 205 stf), (wAr y (a 7) 205 kpf), (wAr y (a 8) 1230 hsf), (wAr y (a 9) 410 slf)]) (As := [.int (jI x1), .int (jI x2)]) (rest := []) ⟨hx_, hb_, hml_, hown_, hts_⟩ hM_ hP_ hD_ hS_ hA_ (List.Perm.of_eq (List.append_nil _).symm) (List.Perm.of_eq (List.append_nil _)) (c_X5_isValue l D y z x1 x2 fu v1 hv1) 2 (va_cwS 2 hts_ gX5_set_X5_isValue rfl rfl rfl (by decide +kernel) ⟨by rw [hR_]; exact Nat.le_of_ble_eq_true rfl, by rw [hR_]; exact Nat.le_of_ble_eq_true rfl⟩) rfl ⟨rfl, rfl⟩ ⟨by rw [hR_]; exact Nat.le_of_ble_eq_true rfl, by rw [hR_]; exact Nat.le_of_ble_eq_true rfl⟩ rfl rfl hl_.1 (Nat.le_of_ble_eq_true rfl) dX5_set_2 ⟨Nat.zero_le _, Nat.zero_le _⟩ (fun H locs hP_ hD_ hS_ => ?_)
    refine jx_if_ne (tgt := 11) hx_ hb_ h_ dX5_set_5 (by decide) (fun h_ => ?_) (fun h_ => ?_)
    · refine lv_aload_n hx_ hb_ dX5_set_11 rfl (lv_at hl_ 0 rfl) ?_
      obtain ⟨rc_m2, hsf_m3, hrc_m2, h_⟩ := jb2_i h_
      refine jx_cvv (rv := 0) (wr := []) (cw := [(wMo y a rc is_ pd pn ho eh mv at_ tk fs lt ea), (wAr y (a 6) 205 stf), (wAr y (a 7) 205 kpf), (wAr y (a 8) 1230 hsf), (wAr y (a 9) 410 slf)]) (cw1 := [(wMo y a rc_m2 is_ pd pn ho eh mv at_ tk fs lt ea), (wAr y (a 6) 205 stf), (wAr y (a 7) 205 kpf), (wAr y (a 8) 1230 hsf_m3), (wAr y (a 9) 410 slf)]) (cs1 := [(wMo y a rc_m2 is_ pd pn ho eh mv at_ tk fs lt ea), (wAr y (a 6) 205 stf), (wAr y (a 7) 205 kpf), (wAr y (a 8) 1230 hsf_m3), (wAr y (a 9) 410 slf)]) (As := []) (rest := []) ⟨hx_, hb_, hml_, hown_, hts_⟩ hM_ hP_ hD_ hS_ hA_ (List.Perm.refl _) (List.Perm.refl _) (c_X5_record l D y z a rc is_ pd pn ho eh mv at_ tk fs lt ea stf kpf hsf slf fu rc_m2 hsf_m3 hrc_m2) 0 gX5_set_X5_record rfl ⟨rfl, rfl⟩ (by decide +kernel) ⟨by rw [hR_]; exact Nat.le_of_ble_eq_true rfl, by rw [hR_]; exact Nat.le_of_ble_eq_true rfl⟩ 0 5 rfl rfl rfl rfl rfl hl_.1 (Nat.le_of_ble_eq_true rfl) dX5_set_12 ⟨Nat.zero_le _, Nat.zero_le _⟩ (fun H locs hP_ hD_ hS_ => ?_)
      refine lv_aload_n hx_ hb_ dX5_set_15 rfl (lv_at hl_ 0 rfl) ?_
      refine va_get (D := D) (ci := 5) (v := .ref (a 6)) (C := RX5) (T := TX5) (N := 16) hx_ hb_ hts_ hin_ hown_ hM_.1 hP_ 0 rfl rfl 0 (by decide) (hts_ (.fieldLink RX5 7 "MusicHolesModel" "state" "[I") (by decide +kernel)) (fun _ h9_ => h9_) rfl dX5_set_16 ?_
      refine lv_iload_n hx_ hb_ dX5_set_19 rfl (lv_at hl_ 1 rfl) ?_
      refine jx_iald hx_ hb_ hM_ hP_ 6 0 rfl rfl rfl (Nat.le_of_ble_eq_true rfl) h_ dX5_set_20 (fun h_ => ?_)
      refine lv_istore_n (lv' := [(3, .int (jI (stf x1))), (0, .ref (a 0)), (1, .int (jI x1)), (2, .int (jI x2))]) hx_ hb_ dX5_set_21 rfl hl_ (by decide) rfl (fun ls hl_ => ?_)
      refine lv_aload_n hx_ hb_ dX5_set_22 rfl (lv_at hl_ 1 rfl) ?_
      refine va_get (D := D) (ci := 5) (v := .ref (a 6)) (C := RX5) (T := TX5) (N := 16) hx_ hb_ hts_ hin_ hown_ hM_.1 hP_ 0 rfl rfl 0 (by decide) (hts_ (.fieldLink RX5 7 "MusicHolesModel" "state" "[I") (by decide +kernel)) (fun _ h9_ => h9_) rfl dX5_set_23 ?_
      refine lv_iload_n hx_ hb_ dX5_set_26 rfl (lv_at hl_ 2 rfl) ?_
      refine lv_iload_n hx_ hb_ dX5_set_27 rfl (lv_at hl_ 3 rfl) ?_
      refine jx_iast hx_ hb_ hM_ hP_ hD_ hS_ 6 0 rfl rfl rfl (Nat.le_of_ble_eq_true rfl) h_ dX5_set_28 (fun H locs h_ hP_ hD_ hS_ => ?_)
      have hP_ : va_P D vwCl [(wMo y a rc_m2 is_ pd pn ho eh mv at_ tk fs lt ea), (wAr y (a 6) 205 (uI stf x1 x2)), (wAr y (a 7) 205 kpf), (wAr y (a 8) 1230 hsf_m3), (wAr y (a 9) 410 slf)].flatten H := hP_
      have hD_ : va_D A [(wMo y a rc_m2 is_ pd pn ho eh mv at_ tk fs lt ea), (wAr y (a 6) 205 (uI stf x1 x2)), (wAr y (a 7) 205 kpf), (wAr y (a 8) 1230 hsf_m3), (wAr y (a 9) 410 slf)].flatten := hD_
      refine lv_iload_n hx_ hb_ dX5_set_29 rfl (lv_at hl_ 0 rfl) ?_
      exact hE_ _ _ _ _ _ _ _ _ h_ dX5_set_30 hP_ hD_ hS_
    · refine lv_bipush (v := jI (-2)) hx_ hb_ dX5_set_8 (by decide +kernel) ?_
      exact hE_ _ _ _ _ _ _ _ _ h_ dX5_set_10 hP_ hD_ hS_
  exact key_ _ (fun v9 rc9 stf9 hsf9 H locs pc ls h9_ hdg_ hP_ hD_ hS_ => by cases h9_; exact jend_i hx_ hb_ hr_ hlocks_ hP_ hD_ hS_ hdg_)
def rm_X5_note : Room := { frames := 3, cells := 0, slots := 0, locals := 72 }
set_option maxRecDepth 100000 in
set_option maxHeartbeats 8000000 in
theorem c_X5_note (l : Launch) (D : va_G) (y : Nat → ClassId) (z : Nat → Nat) (a : Nat → Nat) (rc : Int) (is_ : Int → Int) (pd : Int → Int) (pn : Int) (ho : Int → Int) (eh : Int → Int) (mv : Int → Int) (at_ : Int) (tk : Int) (fs : Int) (lt : Int) (ea : Int) (stf : Int → Int) (kpf : Int → Int) (hsf : Int → Int) (slf : Int → Int) (x1 : Int) (x2 : Int) (x3 : Int) (fu : Nat) (rr : Int) (q_rc : Int) (q_stf : Int → Int) (q_hsf : Int → Int) (h_ : f_X5_note fu rc stf hsf x1 x2 x3 = some (rr, q_rc, q_stf, q_hsf)) : jCI l D y z yX5_note wsX5_note rm_X5_note [.ref (a 0), .int (jI x1), .int (jI x2), .int (jI x3)] [(wMo y a rc is_ pd pn ho eh mv at_ tk fs lt ea), (wAr y (a 6) 205 stf), (wAr y (a 7) 205 kpf), (wAr y (a 8) 1230 hsf), (wAr y (a 9) 410 slf)] [(wMo y a q_rc is_ pd pn ho eh mv at_ tk fs lt ea), (wAr y (a 6) 205 q_stf), (wAr y (a 7) 205 kpf), (wAr y (a 8) 1230 q_hsf), (wAr y (a 9) 410 slf)] rr := by
  intro sz
  refine jmet (Qc := (fun A => va_Qi (fun v (_ : Unit) => v = jI rr) (jB D A [(wMo y a q_rc is_ pd pn ho eh mv at_ tk fs lt ea), (wAr y (a 6) 205 q_stf), (wAr y (a 7) 205 kpf), (wAr y (a 8) 1230 q_hsf), (wAr y (a 9) 410 slf)]) A)) (cc := cX5_note) (maxL := 4) (ret := (some .int)) (own := RX5) (by decide) rfl (Nat.le_of_ble_eq_true rfl) rfl (fun p e s m R args below meth c A ls hR_ hargs_ hx_ hb_ hr_ hlocks_ hml_ hown_ hts_ hname_ hsz_ hP_ hD_ hA_ hM_ hl_ => ?_)
  have key_ : ∀ Q : State → Prop, (∀ (v9 : Int) (rc9 : Int) (stf9 : Int → Int) (hsf9 : Int → Int) (H : Heap) (locs : List Loc) (pc : Nat) (ls : Array Slot), some (v9, rc9, stf9, hsf9) = some (rr, q_rc, q_stf, q_hsf) → decode cX5_note pc = .ok (.ireturn, 1) → va_P D vwCl [(wMo y a rc9 is_ pd pn ho eh mv at_ tk fs lt ea), (wAr y (a 6) 205 stf9), (wAr y (a 7) 205 kpf), (wAr y (a 8) 1230 hsf9), (wAr y (a 9) 410 slf)].flatten H → va_D A [(wMo y a rc9 is_ pd pn ho eh mv at_ tk fs lt ea), (wAr y (a 6) 205 stf9), (wAr y (a 7) 205 kpf), (wAr y (a 8) 1230 hsf9), (wAr y (a 9) 410 slf)].flatten → va_S A s.heap H locs → W p l e R s m args below meth c H locs 0 0 Q (F0 m pc ls [.int (jI v9)])) → W p l e R s m args below meth c s.heap [] 0 0 Q (F0 m 0 ls []) := by
    intro Q hE_
    have hS_ : va_S A s.heap s.heap [] := va_S.rf
    have hl_ : lv_has ls 4 [(0, .ref (a 0)), (1, .int (jI x1)), (2, .int (jI x2)), (3, .int (jI x3))] := hl_
    have hin_ : ∀ w ∈ u_ws RX5 TX5 16, w ∈ wsX5_note := by decide +kernel
    unfold f_X5_note at h_
    refine lv_iload_n hx_ hb_ dX5_note_0 rfl (lv_at hl_ 1 rfl) ?_
    obtain ⟨v1, hv1, h_⟩ := jb_i h_
    refine jx_csi (b := 0) (C := "") (wr := [(wMo y a rc is_ pd pn ho eh mv at_ tk fs lt ea), (wAr y (a 6) 205 stf), (wAr y (a 7) 205 kpf), (wAr y (a 8) 1230 hsf), (wAr y (a 9) 410 slf)]) (cw := []) (cw1 := []) (cs1 := [(wMo y a rc is_ pd pn ho eh mv at_ tk fs lt ea), (wAr y (a 6) 205 stf), (wAr y (a 7) 205 kpf), (wAr y (a 8) 1230 hsf), (wAr y (a 9) 410 slf)]) (As := [.int (jI x1)]) (rest := []) ⟨hx_, hb_, hml_, hown_, hts_⟩ hM_ hP_ hD_ hS_ hA_ (List.Perm.of_eq (List.append_nil _).symm) (List.Perm.of_eq (List.append_nil _)) (c_X5_isTrack l D y z x1 fu v1 hv1) 1 (va_cwS 1 hts_ gX5_note_X5_isTrack rfl rfl rfl (by decide +kernel) ⟨by rw [hR_]; exact Nat.le_of_ble_eq_true rfl, by rw [hR_]; exact Nat.le_of_ble_eq_true rfl⟩) rfl ⟨rfl, rfl⟩ ⟨by rw [hR_]; exact Nat.le_of_ble_eq_true rfl, by rw [hR_]; exact Nat.le_of_ble_eq_true rfl⟩ rfl rfl hl_.1 (Nat.le_of_ble_eq_true rfl) dX5_note_1 ⟨Nat.zero_le _, Nat.zero_le _⟩ (fun H locs hP_ hD_ hS_ => ?_)
    refine jx_if_ne (tgt := 9) hx_ hb_ h_ dX5_note_4 (by decide) (fun h_ => ?_) (fun h_ => ?_)
    · refine lv_iload_n hx_ hb_ dX5_note_9 rfl (lv_at hl_ 2 rfl) ?_
      obtain ⟨v2, hv2, h_⟩ := jb_i h_
      refine jx_csi (b := 0) (C := "") (wr := [(wMo y a rc is_ pd pn ho eh mv at_ tk fs lt ea), (wAr y (a 6) 205 stf), (wAr y (a 7) 205 kpf), (wAr y (a 8) 1230 hsf), (wAr y (a 9) 410 slf)]) (cw := []) (cw1 := []) (cs1 := [(wMo y a rc is_ pd pn ho eh mv at_ tk fs lt ea), (wAr y (a 6) 205 stf), (wAr y (a 7) 205 kpf), (wAr y (a 8) 1230 hsf), (wAr y (a 9) 410 slf)]) (As := [.int (jI x2)]) (rest := []) ⟨hx_, hb_, hml_, hown_, hts_⟩ hM_ hP_ hD_ hS_ hA_ (List.Perm.of_eq (List.append_nil _).symm) (List.Perm.of_eq (List.append_nil _)) (c_X5_isStep l D y z x2 fu v2 hv2) 1 (va_cwS 1 hts_ gX5_note_X5_isStep rfl rfl rfl (by decide +kernel) ⟨by rw [hR_]; exact Nat.le_of_ble_eq_true rfl, by rw [hR_]; exact Nat.le_of_ble_eq_true rfl⟩) rfl ⟨rfl, rfl⟩ ⟨by rw [hR_]; exact Nat.le_of_ble_eq_true rfl, by rw [hR_]; exact Nat.le_of_ble_eq_true rfl⟩ rfl rfl hl_.1 (Nat.le_of_ble_eq_true rfl) dX5_note_10 ⟨Nat.zero_le _, Nat.zero_le _⟩ (fun H locs hP_ hD_ hS_ => ?_)
      refine jx_if_eq (tgt := 28) hx_ hb_ h_ dX5_note_13 (by decide) (fun h_ => ?_) (fun h_ => ?_)
      · refine lv_bipush (v := jI (-2)) hx_ hb_ dX5_note_28 (by decide +kernel) ?_
        exact hE_ _ _ _ _ _ _ _ _ h_ dX5_note_30 hP_ hD_ hS_
      · refine lv_iload_n hx_ hb_ dX5_note_16 rfl (lv_at hl_ 3 rfl) ?_
        obtain ⟨v3, hv3, h_⟩ := jb_i h_
        refine jx_csi (b := 0) (C := "") (wr := [(wMo y a rc is_ pd pn ho eh mv at_ tk fs lt ea), (wAr y (a 6) 205 stf), (wAr y (a 7) 205 kpf), (wAr y (a 8) 1230 hsf), (wAr y (a 9) 410 slf)]) (cw := []) (cw1 := []) (cs1 := [(wMo y a rc is_ pd pn ho eh mv at_ tk fs lt ea), (wAr y (a 6) 205 stf), (wAr y (a 7) 205 kpf), (wAr y (a 8) 1230 hsf), (wAr y (a 9) 410 slf)]) (As := [.int (jI x3)]) (rest := []) ⟨hx_, hb_, hml_, hown_, hts_⟩ hM_ hP_ hD_ hS_ hA_ (List.Perm.of_eq (List.append_nil _).symm) (List.Perm.of_eq (List.append_nil _)) (c_X5_isStep l D y z x3 fu v3 hv3) 1 (va_cwS 1 hts_ gX5_note_X5_isStep rfl rfl rfl (by decide +kernel) ⟨by rw [hR_]; exact Nat.le_of_ble_eq_true rfl, by rw [hR_]; exact Nat.le_of_ble_eq_true rfl⟩) rfl ⟨rfl, rfl⟩ ⟨by rw [hR_]; exact Nat.le_of_ble_eq_true rfl, by rw [hR_]; exact Nat.le_of_ble_eq_true rfl⟩ rfl rfl hl_.1 (Nat.le_of_ble_eq_true rfl) dX5_note_17 ⟨Nat.zero_le _, Nat.zero_le _⟩ (fun H locs hP_ hD_ hS_ => ?_)
        refine jx_if_eq (tgt := 28) hx_ hb_ h_ dX5_note_20 (by decide) (fun h_ => ?_) (fun h_ => ?_)
        · refine lv_bipush (v := jI (-2)) hx_ hb_ dX5_note_28 (by decide +kernel) ?_
          exact hE_ _ _ _ _ _ _ _ _ h_ dX5_note_30 hP_ hD_ hS_
        · refine lv_iload_n hx_ hb_ dX5_note_23 rfl (lv_at hl_ 3 rfl) ?_
          refine lv_iload_n hx_ hb_ dX5_note_24 rfl (lv_at hl_ 2 rfl) ?_
          refine jx_icmp_ge (tgt := 31) hx_ hb_ h_ dX5_note_25 (by decide) (fun h_ => ?_) (fun h_ => ?_)
          · refine lv_aload_n hx_ hb_ dX5_note_31 rfl (lv_at hl_ 0 rfl) ?_
            refine va_get (D := D) (ci := 5) (v := .ref (a 6)) (C := RX5) (T := TX5) (N := 16) hx_ hb_ hts_ hin_ hown_ hM_.1 hP_ 0 rfl rfl 0 (by decide) (hts_ (.fieldLink RX5 7 "MusicHolesModel" "state" "[I") (by decide +kernel)) (fun _ h9_ => h9_) rfl dX5_note_32 ?_
            refine lv_iconst (v := jI 4) hx_ hb_ dX5_note_35 (by decide +kernel) ?_
            refine jx_iald hx_ hb_ hM_ hP_ 6 0 rfl rfl rfl (Nat.le_of_ble_eq_true rfl) h_ dX5_note_36 (fun h_ => ?_)
            refine lv_bipush (v := jI 40) hx_ hb_ dX5_note_37 (by decide +kernel) ?_
            refine jx_icmp_ne (tgt := 45) hx_ hb_ h_ dX5_note_39 (by decide) (fun h_ => ?_) (fun h_ => ?_)
            · refine lv_aload_n hx_ hb_ dX5_note_45 rfl (lv_at hl_ 0 rfl) ?_
              refine lv_iload_n hx_ hb_ dX5_note_46 rfl (lv_at hl_ 1 rfl) ?_
              refine lv_iload_n hx_ hb_ dX5_note_47 rfl (lv_at hl_ 2 rfl) ?_
              refine lv_iload_n hx_ hb_ dX5_note_48 rfl (lv_at hl_ 3 rfl) ?_
              obtain ⟨v4, hv4, h_⟩ := jb_i h_
              refine jx_cvi (wr := []) (cw := [(wMo y a rc is_ pd pn ho eh mv at_ tk fs lt ea), (wAr y (a 6) 205 stf), (wAr y (a 7) 205 kpf), (wAr y (a 8) 1230 hsf), (wAr y (a 9) 410 slf)]) (cw1 := [(wMo y a rc is_ pd pn ho eh mv at_ tk fs lt ea), (wAr y (a 6) 205 stf), (wAr y (a 7) 205 kpf), (wAr y (a 8) 1230 hsf), (wAr y (a 9) 410 slf)]) (cs1 := [(wMo y a rc is_ pd pn ho eh mv at_ tk fs lt ea), (wAr y (a 6) 205 stf), (wAr y (a 7) 205 kpf), (wAr y (a 8) 1230 hsf), (wAr y (a 9) 410 slf)]) (As := [.int (jI x1), .int (jI x2), .int (jI x3)]) (rest := []) ⟨hx_, hb_, hml_, hown_, hts_⟩ hM_ hP_ hD_ hS_ hA_ (List.Perm.refl _) (List.Perm.refl _) (c_X5_isTaken l D y z a rc is_ pd pn ho eh mv at_ tk fs lt ea stf kpf hsf slf x1 x2 x3 fu v4 hv4) 3 gX5_note_X5_isTaken rfl ⟨rfl, rfl⟩ (by decide +kernel) ⟨by rw [hR_]; exact Nat.le_of_ble_eq_true rfl, by rw [hR_]; exact Nat.le_of_ble_eq_true rfl⟩ 0 5 rfl rfl rfl rfl rfl hl_.1 (Nat.le_of_ble_eq_true rfl) dX5_note_49 ⟨Nat.zero_le _, Nat.zero_le _⟩ (fun H locs hP_ hD_ hS_ => ?_)
              refine jx_if_eq (tgt := 58) hx_ hb_ h_ dX5_note_52 (by decide) (fun h_ => ?_) (fun h_ => ?_)
              · refine lv_aload_n hx_ hb_ dX5_note_58 rfl (lv_at hl_ 0 rfl) ?_
                obtain ⟨rc_m5, hsf_m6, hrc_m5, h_⟩ := jb2_i h_
                refine jx_cvv (rv := 0) (wr := []) (cw := [(wMo y a rc is_ pd pn ho eh mv at_ tk fs lt ea), (wAr y (a 6) 205 stf), (wAr y (a 7) 205 kpf), (wAr y (a 8) 1230 hsf), (wAr y (a 9) 410 slf)]) (cw1 := [(wMo y a rc_m5 is_ pd pn ho eh mv at_ tk fs lt ea), (wAr y (a 6) 205 stf), (wAr y (a 7) 205 kpf), (wAr y (a 8) 1230 hsf_m6), (wAr y (a 9) 410 slf)]) (cs1 := [(wMo y a rc_m5 is_ pd pn ho eh mv at_ tk fs lt ea), (wAr y (a 6) 205 stf), (wAr y (a 7) 205 kpf), (wAr y (a 8) 1230 hsf_m6), (wAr y (a 9) 410 slf)]) (As := []) (rest := []) ⟨hx_, hb_, hml_, hown_, hts_⟩ hM_ hP_ hD_ hS_ hA_ (List.Perm.refl _) (List.Perm.refl _) (c_X5_record l D y z a rc is_ pd pn ho eh mv at_ tk fs lt ea stf kpf hsf slf fu rc_m5 hsf_m6 hrc_m5) 0 gX5_note_X5_record rfl ⟨rfl, rfl⟩ (by decide +kernel) ⟨by rw [hR_]; exact Nat.le_of_ble_eq_true rfl, by rw [hR_]; exact Nat.le_of_ble_eq_true rfl⟩ 0 5 rfl rfl rfl rfl rfl hl_.1 (Nat.le_of_ble_eq_true rfl) dX5_note_59 ⟨Nat.zero_le _, Nat.zero_le _⟩ (fun H locs hP_ hD_ hS_ => ?_)
                refine lv_aload_n hx_ hb_ dX5_note_62 rfl (lv_at hl_ 0 rfl) ?_
                refine lv_iload_n hx_ hb_ dX5_note_63 rfl (lv_at hl_ 1 rfl) ?_
                refine lv_iload_n hx_ hb_ dX5_note_64 rfl (lv_at hl_ 2 rfl) ?_
                refine lv_iload_n hx_ hb_ dX5_note_65 rfl (lv_at hl_ 3 rfl) ?_
                refine lv_iconst (v := jI 0) hx_ hb_ dX5_note_66 (by decide +kernel) ?_
                refine lv_iconst (v := jI 0) hx_ hb_ dX5_note_67 (by decide +kernel) ?_
                obtain ⟨v7, stf_m8, hv7, h_⟩ := jb2_i h_
                refine jx_cvi (wr := []) (cw := [(wMo y a rc_m5 is_ pd pn ho eh mv at_ tk fs lt ea), (wAr y (a 6) 205 stf), (wAr y (a 7) 205 kpf), (wAr y (a 8) 1230 hsf_m6), (wAr y (a 9) 410 slf)]) (cw1 := [(wMo y a rc_m5 is_ pd pn ho eh mv at_ tk fs lt ea), (wAr y (a 6) 205 stf_m8), (wAr y (a 7) 205 kpf), (wAr y (a 8) 1230 hsf_m6), (wAr y (a 9) 410 slf)]) (cs1 := [(wMo y a rc_m5 is_ pd pn ho eh mv at_ tk fs lt ea), (wAr y (a 6) 205 stf_m8), (wAr y (a 7) 205 kpf), (wAr y (a 8) 1230 hsf_m6), (wAr y (a 9) 410 slf)]) (As := [.int (jI x1), .int (jI x2), .int (jI x3), .int (jI 0), .int (jI 0)]) (rest := []) ⟨hx_, hb_, hml_, hown_, hts_⟩ hM_ hP_ hD_ hS_ hA_ (List.Perm.refl _) (List.Perm.refl _) (c_X5_putIn l D y z a rc_m5 is_ pd pn ho eh mv at_ tk fs lt ea stf kpf hsf_m6 slf x1 x2 x3 0 0 fu v7 stf_m8 hv7) 5 gX5_note_X5_putIn rfl ⟨rfl, rfl⟩ (by decide +kernel) ⟨by rw [hR_]; exact Nat.le_of_ble_eq_true rfl, by rw [hR_]; exact Nat.le_of_ble_eq_true rfl⟩ 0 5 rfl rfl rfl rfl rfl hl_.1 (Nat.le_of_ble_eq_true rfl) dX5_note_68 ⟨Nat.zero_le _, Nat.zero_le _⟩ (fun H locs hP_ hD_ hS_ => ?_)
                exact hE_ _ _ _ _ _ _ _ _ h_ dX5_note_71 hP_ hD_ hS_
              · refine lv_bipush (v := jI (-5)) hx_ hb_ dX5_note_55 (by decide +kernel) ?_
                exact hE_ _ _ _ _ _ _ _ _ h_ dX5_note_57 hP_ hD_ hS_
            · refine lv_bipush (v := jI (-4)) hx_ hb_ dX5_note_42 (by decide +kernel) ?_
              exact hE_ _ _ _ _ _ _ _ _ h_ dX5_note_44 hP_ hD_ hS_
          · refine lv_bipush (v := jI (-2)) hx_ hb_ dX5_note_28 (by decide +kernel) ?_
            exact hE_ _ _ _ _ _ _ _ _ h_ dX5_note_30 hP_ hD_ hS_
    · refine lv_iconst (v := jI (-1)) hx_ hb_ dX5_note_7 (by decide +kernel) ?_
      exact hE_ _ _ _ _ _ _ _ _ h_ dX5_note_8 hP_ hD_ hS_
  exact key_ _ (fun v9 rc9 stf9 hsf9 H locs pc ls h9_ hdg_ hP_ hD_ hS_ => by cases h9_; exact jend_i hx_ hb_ hr_ hlocks_ hP_ hD_ hS_ hdg_)
def rm_X5_drop : Room := { frames := 3, cells := 0, slots := 0, locals := 68 }
set_option maxRecDepth 100000 in
set_option maxHeartbeats 8000000 in
theorem c_X5_drop (l : Launch) (D : va_G) (y : Nat → ClassId) (z : Nat → Nat) (a : Nat → Nat) (rc : Int) (is_ : Int → Int) (pd : Int → Int) (pn : Int) (ho : Int → Int) (eh : Int → Int) (mv : Int → Int) (at_ : Int) (tk : Int) (fs : Int) (lt : Int) (ea : Int) (stf : Int → Int) (kpf : Int → Int) (hsf : Int → Int) (slf : Int → Int) (x1 : Int) (fu : Nat) (rr : Int) (q_rc : Int) (q_stf : Int → Int) (q_hsf : Int → Int) (h_ : f_X5_drop fu rc stf hsf x1 = some (rr, q_rc, q_stf, q_hsf)) : jCI l D y z yX5_drop wsX5_drop rm_X5_drop [.ref (a 0), .int (jI x1)] [(wMo y a rc is_ pd pn ho eh mv at_ tk fs lt ea), (wAr y (a 6) 205 stf), (wAr y (a 7) 205 kpf), (wAr y (a 8) 1230 hsf), (wAr y (a 9) 410 slf)] [(wMo y a q_rc is_ pd pn ho eh mv at_ tk fs lt ea), (wAr y (a 6) 205 q_stf), (wAr y (a 7) 205 kpf), (wAr y (a 8) 1230 q_hsf), (wAr y (a 9) 410 slf)] rr := by
  intro sz
  refine jmet (Qc := (fun A => va_Qi (fun v (_ : Unit) => v = jI rr) (jB D A [(wMo y a q_rc is_ pd pn ho eh mv at_ tk fs lt ea), (wAr y (a 6) 205 q_stf), (wAr y (a 7) 205 kpf), (wAr y (a 8) 1230 q_hsf), (wAr y (a 9) 410 slf)]) A)) (cc := cX5_drop) (maxL := 2) (ret := (some .int)) (own := RX5) (by decide) rfl (Nat.le_of_ble_eq_true rfl) rfl (fun p e s m R args below meth c A ls hR_ hargs_ hx_ hb_ hr_ hlocks_ hml_ hown_ hts_ hname_ hsz_ hP_ hD_ hA_ hM_ hl_ => ?_)
  have key_ : ∀ Q : State → Prop, (∀ (v9 : Int) (rc9 : Int) (stf9 : Int → Int) (hsf9 : Int → Int) (H : Heap) (locs : List Loc) (pc : Nat) (ls : Array Slot), some (v9, rc9, stf9, hsf9) = some (rr, q_rc, q_stf, q_hsf) → decode cX5_drop pc = .ok (.ireturn, 1) → va_P D vwCl [(wMo y a rc9 is_ pd pn ho eh mv at_ tk fs lt ea), (wAr y (a 6) 205 stf9), (wAr y (a 7) 205 kpf), (wAr y (a 8) 1230 hsf9), (wAr y (a 9) 410 slf)].flatten H → va_D A [(wMo y a rc9 is_ pd pn ho eh mv at_ tk fs lt ea), (wAr y (a 6) 205 stf9), (wAr y (a 7) 205 kpf), (wAr y (a 8) 1230 hsf9), (wAr y (a 9) 410 slf)].flatten → va_S A s.heap H locs → W p l e R s m args below meth c H locs 0 0 Q (F0 m pc ls [.int (jI v9)])) → W p l e R s m args below meth c s.heap [] 0 0 Q (F0 m 0 ls []) := by
    intro Q hE_
    have hS_ : va_S A s.heap s.heap [] := va_S.rf
    have hl_ : lv_has ls 2 [(0, .ref (a 0)), (1, .int (jI x1))] := hl_
    have hin_ : ∀ w ∈ u_ws RX5 TX5 16, w ∈ wsX5_drop := by decide +kernel
    unfold f_X5_drop at h_
    refine lv_aload_n hx_ hb_ dX5_drop_0 rfl (lv_at hl_ 0 rfl) ?_
    refine lv_iload_n hx_ hb_ dX5_drop_1 rfl (lv_at hl_ 1 rfl) ?_
    obtain ⟨v1, hv1, h_⟩ := jb_i h_
    refine jx_cvi (wr := []) (cw := [(wMo y a rc is_ pd pn ho eh mv at_ tk fs lt ea), (wAr y (a 6) 205 stf), (wAr y (a 7) 205 kpf), (wAr y (a 8) 1230 hsf), (wAr y (a 9) 410 slf)]) (cw1 := [(wMo y a rc is_ pd pn ho eh mv at_ tk fs lt ea), (wAr y (a 6) 205 stf), (wAr y (a 7) 205 kpf), (wAr y (a 8) 1230 hsf), (wAr y (a 9) 410 slf)]) (cs1 := [(wMo y a rc is_ pd pn ho eh mv at_ tk fs lt ea), (wAr y (a 6) 205 stf), (wAr y (a 7) 205 kpf), (wAr y (a 8) 1230 hsf), (wAr y (a 9) 410 slf)]) (As := [.int (jI x1)]) (rest := []) ⟨hx_, hb_, hml_, hown_, hts_⟩ hM_ hP_ hD_ hS_ hA_ (List.Perm.refl _) (List.Perm.refl _) (c_X5_isNote l D y z a rc is_ pd pn ho eh mv at_ tk fs lt ea stf kpf hsf slf x1 fu v1 hv1) 1 gX5_drop_X5_isNote rfl ⟨rfl, rfl⟩ (by decide +kernel) ⟨by rw [hR_]; exact Nat.le_of_ble_eq_true rfl, by rw [hR_]; exact Nat.le_of_ble_eq_true rfl⟩ 0 5 rfl rfl rfl rfl rfl hl_.1 (Nat.le_of_ble_eq_true rfl) dX5_drop_2 ⟨Nat.zero_le _, Nat.zero_le _⟩ (fun H locs hP_ hD_ hS_ => ?_)
    refine jx_if_ne (tgt := 10) hx_ hb_ h_ dX5_drop_5 (by decide) (fun h_ => ?_) (fun h_ => ?_)
    · refine lv_aload_n hx_ hb_ dX5_drop_10 rfl (lv_at hl_ 0 rfl) ?_
      obtain ⟨rc_m2, hsf_m3, hrc_m2, h_⟩ := jb2_i h_
      refine jx_cvv (rv := 0) (wr := []) (cw := [(wMo y a rc is_ pd pn ho eh mv at_ tk fs lt ea), (wAr y (a 6) 205 stf), (wAr y (a 7) 205 kpf), (wAr y (a 8) 1230 hsf), (wAr y (a 9) 410 slf)]) (cw1 := [(wMo y a rc_m2 is_ pd pn ho eh mv at_ tk fs lt ea), (wAr y (a 6) 205 stf), (wAr y (a 7) 205 kpf), (wAr y (a 8) 1230 hsf_m3), (wAr y (a 9) 410 slf)]) (cs1 := [(wMo y a rc_m2 is_ pd pn ho eh mv at_ tk fs lt ea), (wAr y (a 6) 205 stf), (wAr y (a 7) 205 kpf), (wAr y (a 8) 1230 hsf_m3), (wAr y (a 9) 410 slf)]) (As := []) (rest := []) ⟨hx_, hb_, hml_, hown_, hts_⟩ hM_ hP_ hD_ hS_ hA_ (List.Perm.refl _) (List.Perm.refl _) (c_X5_record l D y z a rc is_ pd pn ho eh mv at_ tk fs lt ea stf kpf hsf slf fu rc_m2 hsf_m3 hrc_m2) 0 gX5_drop_X5_record rfl ⟨rfl, rfl⟩ (by decide +kernel) ⟨by rw [hR_]; exact Nat.le_of_ble_eq_true rfl, by rw [hR_]; exact Nat.le_of_ble_eq_true rfl⟩ 0 5 rfl rfl rfl rfl rfl hl_.1 (Nat.le_of_ble_eq_true rfl) dX5_drop_11 ⟨Nat.zero_le _, Nat.zero_le _⟩ (fun H locs hP_ hD_ hS_ => ?_)
      refine lv_aload_n hx_ hb_ dX5_drop_14 rfl (lv_at hl_ 0 rfl) ?_
      refine lv_iload_n hx_ hb_ dX5_drop_15 rfl (lv_at hl_ 1 rfl) ?_
      obtain ⟨stf_m4, hstf_m4, h_⟩ := jb_i h_
      refine jx_cvv (rv := 0) (wr := []) (cw := [(wMo y a rc_m2 is_ pd pn ho eh mv at_ tk fs lt ea), (wAr y (a 6) 205 stf), (wAr y (a 7) 205 kpf), (wAr y (a 8) 1230 hsf_m3), (wAr y (a 9) 410 slf)]) (cw1 := [(wMo y a rc_m2 is_ pd pn ho eh mv at_ tk fs lt ea), (wAr y (a 6) 205 stf_m4), (wAr y (a 7) 205 kpf), (wAr y (a 8) 1230 hsf_m3), (wAr y (a 9) 410 slf)]) (cs1 := [(wMo y a rc_m2 is_ pd pn ho eh mv at_ tk fs lt ea), (wAr y (a 6) 205 stf_m4), (wAr y (a 7) 205 kpf), (wAr y (a 8) 1230 hsf_m3), (wAr y (a 9) 410 slf)]) (As := [.int (jI x1)]) (rest := []) ⟨hx_, hb_, hml_, hown_, hts_⟩ hM_ hP_ hD_ hS_ hA_ (List.Perm.refl _) (List.Perm.refl _) (c_X5_takeOut l D y z a rc_m2 is_ pd pn ho eh mv at_ tk fs lt ea stf kpf hsf_m3 slf x1 fu stf_m4 hstf_m4) 1 gX5_drop_X5_takeOut rfl ⟨rfl, rfl⟩ (by decide +kernel) ⟨by rw [hR_]; exact Nat.le_of_ble_eq_true rfl, by rw [hR_]; exact Nat.le_of_ble_eq_true rfl⟩ 0 5 rfl rfl rfl rfl rfl hl_.1 (Nat.le_of_ble_eq_true rfl) dX5_drop_16 ⟨Nat.zero_le _, Nat.zero_le _⟩ (fun H locs hP_ hD_ hS_ => ?_)
      refine lv_aload_n hx_ hb_ dX5_drop_19 rfl (lv_at hl_ 0 rfl) ?_
      refine va_get (D := D) (ci := 5) (v := .ref (a 6)) (C := RX5) (T := TX5) (N := 16) hx_ hb_ hts_ hin_ hown_ hM_.1 hP_ 0 rfl rfl 0 (by decide) (hts_ (.fieldLink RX5 7 "MusicHolesModel" "state" "[I") (by decide +kernel)) (fun _ h9_ => h9_) rfl dX5_drop_20 ?_
      refine lv_iconst (v := jI 4) hx_ hb_ dX5_drop_23 (by decide +kernel) ?_
      refine jx_iald hx_ hb_ hM_ hP_ 6 0 rfl rfl rfl (Nat.le_of_ble_eq_true rfl) h_ dX5_drop_24 (fun h_ => ?_)
      exact hE_ _ _ _ _ _ _ _ _ h_ dX5_drop_25 hP_ hD_ hS_
    · refine lv_iconst (v := jI (-1)) hx_ hb_ dX5_drop_8 (by decide +kernel) ?_
      exact hE_ _ _ _ _ _ _ _ _ h_ dX5_drop_9 hP_ hD_ hS_
  exact key_ _ (fun v9 rc9 stf9 hsf9 H locs pc ls h9_ hdg_ hP_ hD_ hS_ => by cases h9_; exact jend_i hx_ hb_ hr_ hlocks_ hP_ hD_ hS_ hdg_)
def rm_X5_shift : Room := { frames := 2, cells := 0, slots := 0, locals := 45 }
set_option maxRecDepth 100000 in
set_option maxHeartbeats 8000000 in
theorem c_X5_shift (l : Launch) (D : va_G) (y : Nat → ClassId) (z : Nat → Nat) (a : Nat → Nat) (rc : Int) (is_ : Int → Int) (pd : Int → Int) (pn : Int) (ho : Int → Int) (eh : Int → Int) (mv : Int → Int) (at_ : Int) (tk : Int) (fs : Int) (lt : Int) (ea : Int) (stf : Int → Int) (kpf : Int → Int) (hsf : Int → Int) (slf : Int → Int) (x1 : Int) (x2 : Int) (fu : Nat) (rr : Int) (q_rc : Int) (q_stf : Int → Int) (q_hsf : Int → Int) (h_ : f_X5_shift fu rc stf hsf x1 x2 = some (rr, q_rc, q_stf, q_hsf)) : jCI l D y z yX5_shift wsX5_shift rm_X5_shift [.ref (a 0), .int (jI x1), .int (jI x2)] [(wMo y a rc is_ pd pn ho eh mv at_ tk fs lt ea), (wAr y (a 6) 205 stf), (wAr y (a 7) 205 kpf), (wAr y (a 8) 1230 hsf), (wAr y (a 9) 410 slf)] [(wMo y a q_rc is_ pd pn ho eh mv at_ tk fs lt ea), (wAr y (a 6) 205 q_stf), (wAr y (a 7) 205 kpf), (wAr y (a 8) 1230 q_hsf), (wAr y (a 9) 410 slf)] rr := by
  intro sz
  refine jmet (Qc := (fun A => va_Qi (fun v (_ : Unit) => v = jI rr) (jB D A [(wMo y a q_rc is_ pd pn ho eh mv at_ tk fs lt ea), (wAr y (a 6) 205 q_stf), (wAr y (a 7) 205 kpf), (wAr y (a 8) 1230 q_hsf), (wAr y (a 9) 410 slf)]) A)) (cc := cX5_shift) (maxL := 4) (ret := (some .int)) (own := RX5) (by decide) rfl (Nat.le_of_ble_eq_true rfl) rfl (fun p e s m R args below meth c A ls hR_ hargs_ hx_ hb_ hr_ hlocks_ hml_ hown_ hts_ hname_ hsz_ hP_ hD_ hA_ hM_ hl_ => ?_)
  have key_ : ∀ Q : State → Prop, (∀ (v9 : Int) (rc9 : Int) (stf9 : Int → Int) (hsf9 : Int → Int) (H : Heap) (locs : List Loc) (pc : Nat) (ls : Array Slot), some (v9, rc9, stf9, hsf9) = some (rr, q_rc, q_stf, q_hsf) → decode cX5_shift pc = .ok (.ireturn, 1) → va_P D vwCl [(wMo y a rc9 is_ pd pn ho eh mv at_ tk fs lt ea), (wAr y (a 6) 205 stf9), (wAr y (a 7) 205 kpf), (wAr y (a 8) 1230 hsf9), (wAr y (a 9) 410 slf)].flatten H → va_D A [(wMo y a rc9 is_ pd pn ho eh mv at_ tk fs lt ea), (wAr y (a 6) 205 stf9), (wAr y (a 7) 205 kpf), (wAr y (a 8) 1230 hsf9), (wAr y (a 9) 410 slf)].flatten → va_S A s.heap H locs → W p l e R s m args below meth c H locs 0 0 Q (F0 m pc ls [.int (jI v9)])) → W p l e R s m args below meth c s.heap [] 0 0 Q (F0 m 0 ls []) := by
    intro Q hE_
    have hS_ : va_S A s.heap s.heap [] := va_S.rf
    have hl_ : lv_has ls 4 [(0, .ref (a 0)), (1, .int (jI x1)), (2, .int (jI x2))] := hl_
    have hin_ : ∀ w ∈ u_ws RX5 TX5 16, w ∈ wsX5_shift := by decide +kernel
    unfold f_X5_shift at h_
    refine lv_aload_n hx_ hb_ dX5_shift_0 rfl (lv_at hl_ 0 rfl) ?_
    refine lv_iload_n hx_ hb_ dX5_shift_1 rfl (lv_at hl_ 1 rfl) ?_
    obtain ⟨v1, hv1, h_⟩ := jb_i h_
    refine jx_cvi (wr := []) (cw := [(wMo y a rc is_ pd pn ho eh mv at_ tk fs lt ea), (wAr y (a 6) 205 stf), (wAr y (a 7) 205 kpf), (wAr y (a 8) 1230 hsf), (wAr y (a 9) 410 slf)]) (cw1 := [(wMo y a rc is_ pd pn ho eh mv at_ tk fs lt ea), (wAr y (a 6) 205 stf), (wAr y (a 7) 205 kpf), (wAr y (a 8) 1230 hsf), (wAr y (a 9) 410 slf)]) (cs1 := [(wMo y a rc is_ pd pn ho eh mv at_ tk fs lt ea), (wAr y (a 6) 205 stf), (wAr y (a 7) 205 kpf), (wAr y (a 8) 1230 hsf), (wAr y (a 9) 410 slf)]) (As := [.int (jI x1)]) (rest := []) ⟨hx_, hb_, hml_, hown_, hts_⟩ hM_ hP_ hD_ hS_ hA_ (List.Perm.refl _) (List.Perm.refl _) (c_X5_isNote l D y z a rc is_ pd pn ho eh mv at_ tk fs lt ea stf kpf hsf slf x1 fu v1 hv1) 1 gX5_shift_X5_isNote rfl ⟨rfl, rfl⟩ (by decide +kernel) ⟨by rw [hR_]; exact Nat.le_of_ble_eq_true rfl, by rw [hR_]; exact Nat.le_of_ble_eq_true rfl⟩ 0 5 rfl rfl rfl rfl rfl hl_.1 (Nat.le_of_ble_eq_true rfl) dX5_shift_2 ⟨Nat.zero_le _, Nat.zero_le _⟩ (fun H locs hP_ hD_ hS_ => ?_)
    have hJ18 : ∀  (H : Heap) (locs : List Loc) (ls : Array Slot), f_X5_shift_J18 fu rc stf hsf x1 = some (rr, q_rc, q_stf, q_hsf) → va_P D vwCl [(wMo y a rc is_ pd pn ho eh mv at_ tk fs lt ea), (wAr y (a 6) 205 stf), (wAr y (a 7) 205 kpf), (wAr y (a 8) 1230 hsf), (wAr y (a 9) 410 slf)].flatten H → va_D A [(wMo y a rc is_ pd pn ho eh mv at_ tk fs lt ea), (wAr y (a 6) 205 stf), (wAr y (a 7) 205 kpf), (wAr y (a 8) 1230 hsf), (wAr y (a 9) 410 slf)].flatten → va_S A s.heap H locs → lv_has ls 4 [(0, .ref (a 0)), (1, .int (jI x1))] → W p l e R s m args below meth c H locs 0 0 Q (F0 m 18 ls []) := by
      intro  H locs ls h_ hP_ hD_ hS_ hl_
      unfold f_X5_shift_J18 at h_
      refine lv_aload_n hx_ hb_ dX5_shift_18 rfl (lv_at hl_ 0 rfl) ?_
      refine lv_iload_n hx_ hb_ dX5_shift_19 rfl (lv_at hl_ 1 rfl) ?_
      obtain ⟨v2, hv2, h_⟩ := jb_i h_
      refine jx_cvi (wr := []) (cw := [(wMo y a rc is_ pd pn ho eh mv at_ tk fs lt ea), (wAr y (a 6) 205 stf), (wAr y (a 7) 205 kpf), (wAr y (a 8) 1230 hsf), (wAr y (a 9) 410 slf)]) (cw1 := [(wMo y a rc is_ pd pn ho eh mv at_ tk fs lt ea), (wAr y (a 6) 205 stf), (wAr y (a 7) 205 kpf), (wAr y (a 8) 1230 hsf), (wAr y (a 9) 410 slf)]) (cs1 := [(wMo y a rc is_ pd pn ho eh mv at_ tk fs lt ea), (wAr y (a 6) 205 stf), (wAr y (a 7) 205 kpf), (wAr y (a 8) 1230 hsf), (wAr y (a 9) 410 slf)]) (As := [.int (jI x1)]) (rest := []) ⟨hx_, hb_, hml_, hown_, hts_⟩ hM_ hP_ hD_ hS_ hA_ (List.Perm.refl _) (List.Perm.refl _) (c_X5_isNote l D y z a rc is_ pd pn ho eh mv at_ tk fs lt ea stf kpf hsf slf x1 fu v2 hv2) 1 gX5_shift_X5_isNote rfl ⟨rfl, rfl⟩ (by decide +kernel) ⟨by rw [hR_]; exact Nat.le_of_ble_eq_true rfl, by rw [hR_]; exact Nat.le_of_ble_eq_true rfl⟩ 0 5 rfl rfl rfl rfl rfl hl_.1 (Nat.le_of_ble_eq_true rfl) dX5_shift_20 ⟨Nat.zero_le _, Nat.zero_le _⟩ (fun H locs hP_ hD_ hS_ => ?_)
      refine jx_if_eq (tgt := 31) hx_ hb_ h_ dX5_shift_23 (by decide) (fun h_ => ?_) (fun h_ => ?_)
      · refine lv_iconst (v := jI (-1)) hx_ hb_ dX5_shift_31 (by decide +kernel) ?_
        exact hE_ _ _ _ _ _ _ _ _ h_ dX5_shift_32 hP_ hD_ hS_
      · refine lv_bipush (v := jI (-2)) hx_ hb_ dX5_shift_26 (by decide +kernel) ?_
        refine lv_goto (tgt := 32) hx_ hb_ dX5_shift_28 (by decide) ?_
        exact hE_ _ _ _ _ _ _ _ _ h_ dX5_shift_32 hP_ hD_ hS_
    refine jx_if_eq (tgt := 18) hx_ hb_ h_ dX5_shift_5 (by decide) (fun h_ => ?_) (fun h_ => ?_)
    · exact hJ18  _ _ ls h_ hP_ hD_ hS_ (lv_sub hl_ [0, 1] rfl)
    · refine lv_iload_n hx_ hb_ dX5_shift_8 rfl (lv_at hl_ 2 rfl) ?_
      refine lv_iconst (v := jI 0) hx_ hb_ dX5_shift_9 (by decide +kernel) ?_
      refine lv_bipush (v := jI 12) hx_ hb_ dX5_shift_10 (by decide +kernel) ?_
      obtain ⟨v3, hv3, h_⟩ := jb_i h_
      refine jx_csi (b := 0) (C := "") (wr := [(wMo y a rc is_ pd pn ho eh mv at_ tk fs lt ea), (wAr y (a 6) 205 stf), (wAr y (a 7) 205 kpf), (wAr y (a 8) 1230 hsf), (wAr y (a 9) 410 slf)]) (cw := []) (cw1 := []) (cs1 := [(wMo y a rc is_ pd pn ho eh mv at_ tk fs lt ea), (wAr y (a 6) 205 stf), (wAr y (a 7) 205 kpf), (wAr y (a 8) 1230 hsf), (wAr y (a 9) 410 slf)]) (As := [.int (jI x2), .int (jI 0), .int (jI 12)]) (rest := []) ⟨hx_, hb_, hml_, hown_, hts_⟩ hM_ hP_ hD_ hS_ hA_ (List.Perm.of_eq (List.append_nil _).symm) (List.Perm.of_eq (List.append_nil _)) (c_X5_within l D y z x2 0 12 fu v3 hv3) 3 (va_cwS 3 hts_ gX5_shift_X5_within rfl rfl rfl (by decide +kernel) ⟨by rw [hR_]; exact Nat.le_of_ble_eq_true rfl, by rw [hR_]; exact Nat.le_of_ble_eq_true rfl⟩) rfl ⟨rfl, rfl⟩ ⟨by rw [hR_]; exact Nat.le_of_ble_eq_true rfl, by rw [hR_]; exact Nat.le_of_ble_eq_true rfl⟩ rfl rfl hl_.1 (Nat.le_of_ble_eq_true rfl) dX5_shift_12 ⟨Nat.zero_le _, Nat.zero_le _⟩ (fun H locs hP_ hD_ hS_ => ?_)
      refine jx_if_ne (tgt := 33) hx_ hb_ h_ dX5_shift_15 (by decide) (fun h_ => ?_) (fun h_ => ?_)
      · refine lv_aload_n hx_ hb_ dX5_shift_33 rfl (lv_at hl_ 0 rfl) ?_
        obtain ⟨rc_m4, hsf_m5, hrc_m4, h_⟩ := jb2_i h_
        refine jx_cvv (rv := 0) (wr := []) (cw := [(wMo y a rc is_ pd pn ho eh mv at_ tk fs lt ea), (wAr y (a 6) 205 stf), (wAr y (a 7) 205 kpf), (wAr y (a 8) 1230 hsf), (wAr y (a 9) 410 slf)]) (cw1 := [(wMo y a rc_m4 is_ pd pn ho eh mv at_ tk fs lt ea), (wAr y (a 6) 205 stf), (wAr y (a 7) 205 kpf), (wAr y (a 8) 1230 hsf_m5), (wAr y (a 9) 410 slf)]) (cs1 := [(wMo y a rc_m4 is_ pd pn ho eh mv at_ tk fs lt ea), (wAr y (a 6) 205 stf), (wAr y (a 7) 205 kpf), (wAr y (a 8) 1230 hsf_m5), (wAr y (a 9) 410 slf)]) (As := []) (rest := []) ⟨hx_, hb_, hml_, hown_, hts_⟩ hM_ hP_ hD_ hS_ hA_ (List.Perm.refl _) (List.Perm.refl _) (c_X5_record l D y z a rc is_ pd pn ho eh mv at_ tk fs lt ea stf kpf hsf slf fu rc_m4 hsf_m5 hrc_m4) 0 gX5_shift_X5_record rfl ⟨rfl, rfl⟩ (by decide +kernel) ⟨by rw [hR_]; exact Nat.le_of_ble_eq_true rfl, by rw [hR_]; exact Nat.le_of_ble_eq_true rfl⟩ 0 5 rfl rfl rfl rfl rfl hl_.1 (Nat.le_of_ble_eq_true rfl) dX5_shift_34 ⟨Nat.zero_le _, Nat.zero_le _⟩ (fun H locs hP_ hD_ hS_ => ?_)
        refine lv_aload_n hx_ hb_ dX5_shift_37 rfl (lv_at hl_ 0 rfl) ?_
        refine lv_iload_n hx_ hb_ dX5_shift_38 rfl (lv_at hl_ 1 rfl) ?_
        refine lv_iconst (v := jI 3) hx_ hb_ dX5_shift_39 (by decide +kernel) ?_
        obtain ⟨v6, hv6, h_⟩ := jb_i h_
        refine jx_cvi (wr := []) (cw := [(wMo y a rc_m4 is_ pd pn ho eh mv at_ tk fs lt ea), (wAr y (a 6) 205 stf), (wAr y (a 7) 205 kpf), (wAr y (a 8) 1230 hsf_m5), (wAr y (a 9) 410 slf)]) (cw1 := [(wMo y a rc_m4 is_ pd pn ho eh mv at_ tk fs lt ea), (wAr y (a 6) 205 stf), (wAr y (a 7) 205 kpf), (wAr y (a 8) 1230 hsf_m5), (wAr y (a 9) 410 slf)]) (cs1 := [(wMo y a rc_m4 is_ pd pn ho eh mv at_ tk fs lt ea), (wAr y (a 6) 205 stf), (wAr y (a 7) 205 kpf), (wAr y (a 8) 1230 hsf_m5), (wAr y (a 9) 410 slf)]) (As := [.int (jI x1), .int (jI 3)]) (rest := []) ⟨hx_, hb_, hml_, hown_, hts_⟩ hM_ hP_ hD_ hS_ hA_ (List.Perm.refl _) (List.Perm.refl _) (c_X5_part l D y z a rc_m4 is_ pd pn ho eh mv at_ tk fs lt ea stf kpf hsf_m5 slf x1 3 fu v6 hv6) 2 gX5_shift_X5_part rfl ⟨rfl, rfl⟩ (by decide +kernel) ⟨by rw [hR_]; exact Nat.le_of_ble_eq_true rfl, by rw [hR_]; exact Nat.le_of_ble_eq_true rfl⟩ 0 5 rfl rfl rfl rfl rfl hl_.1 (Nat.le_of_ble_eq_true rfl) dX5_shift_40 ⟨Nat.zero_le _, Nat.zero_le _⟩ (fun H locs hP_ hD_ hS_ => ?_)
        refine lv_istore_n (lv' := [(3, .int (jI v6)), (0, .ref (a 0)), (1, .int (jI x1)), (2, .int (jI x2))]) hx_ hb_ dX5_shift_43 rfl hl_ (by decide) rfl (fun ls hl_ => ?_)
        refine lv_aload_n hx_ hb_ dX5_shift_44 rfl (lv_at hl_ 1 rfl) ?_
        refine lv_iload_n hx_ hb_ dX5_shift_45 rfl (lv_at hl_ 2 rfl) ?_
        refine lv_iconst (v := jI 3) hx_ hb_ dX5_shift_46 (by decide +kernel) ?_
        refine lv_iload_n hx_ hb_ dX5_shift_47 rfl (lv_at hl_ 3 rfl) ?_
        obtain ⟨stf_m7, hstf_m7, h_⟩ := jb_i h_
        refine jx_cvv (rv := 0) (wr := []) (cw := [(wMo y a rc_m4 is_ pd pn ho eh mv at_ tk fs lt ea), (wAr y (a 6) 205 stf), (wAr y (a 7) 205 kpf), (wAr y (a 8) 1230 hsf_m5), (wAr y (a 9) 410 slf)]) (cw1 := [(wMo y a rc_m4 is_ pd pn ho eh mv at_ tk fs lt ea), (wAr y (a 6) 205 stf_m7), (wAr y (a 7) 205 kpf), (wAr y (a 8) 1230 hsf_m5), (wAr y (a 9) 410 slf)]) (cs1 := [(wMo y a rc_m4 is_ pd pn ho eh mv at_ tk fs lt ea), (wAr y (a 6) 205 stf_m7), (wAr y (a 7) 205 kpf), (wAr y (a 8) 1230 hsf_m5), (wAr y (a 9) 410 slf)]) (As := [.int (jI x1), .int (jI 3), .int (jI x2)]) (rest := []) ⟨hx_, hb_, hml_, hown_, hts_⟩ hM_ hP_ hD_ hS_ hA_ (List.Perm.refl _) (List.Perm.refl _) (c_X5_setPart l D y z a rc_m4 is_ pd pn ho eh mv at_ tk fs lt ea stf kpf hsf_m5 slf x1 3 x2 fu stf_m7 hstf_m7) 3 gX5_shift_X5_setPart rfl ⟨rfl, rfl⟩ (by decide +kernel) ⟨by rw [hR_]; exact Nat.le_of_ble_eq_true rfl, by rw [hR_]; exact Nat.le_of_ble_eq_true rfl⟩ 0 5 rfl rfl rfl rfl rfl hl_.1 (Nat.le_of_ble_eq_true rfl) dX5_shift_48 ⟨Nat.zero_le _, Nat.zero_le _⟩ (fun H locs hP_ hD_ hS_ => ?_)
        refine lv_iload_n hx_ hb_ dX5_shift_51 rfl (lv_at hl_ 0 rfl) ?_
        exact hE_ _ _ _ _ _ _ _ _ h_ dX5_shift_52 hP_ hD_ hS_
      · exact hJ18  _ _ ls h_ hP_ hD_ hS_ (lv_sub hl_ [0, 1] rfl)
  exact key_ _ (fun v9 rc9 stf9 hsf9 H locs pc ls h9_ hdg_ hP_ hD_ hS_ => by cases h9_; exact jend_i hx_ hb_ hr_ hlocks_ hP_ hD_ hS_ hdg_)
def rm_X5_accent : Room := { frames := 2, cells := 0, slots := 0, locals := 45 }
set_option maxRecDepth 100000 in
set_option maxHeartbeats 8000000 in
theorem c_X5_accent (l : Launch) (D : va_G) (y : Nat → ClassId) (z : Nat → Nat) (a : Nat → Nat) (rc : Int) (is_ : Int → Int) (pd : Int → Int) (pn : Int) (ho : Int → Int) (eh : Int → Int) (mv : Int → Int) (at_ : Int) (tk : Int) (fs : Int) (lt : Int) (ea : Int) (stf : Int → Int) (kpf : Int → Int) (hsf : Int → Int) (slf : Int → Int) (x1 : Int) (x2 : Int) (fu : Nat) (rr : Int) (q_rc : Int) (q_stf : Int → Int) (q_hsf : Int → Int) (h_ : f_X5_accent fu rc stf hsf x1 x2 = some (rr, q_rc, q_stf, q_hsf)) : jCI l D y z yX5_accent wsX5_accent rm_X5_accent [.ref (a 0), .int (jI x1), .int (jI x2)] [(wMo y a rc is_ pd pn ho eh mv at_ tk fs lt ea), (wAr y (a 6) 205 stf), (wAr y (a 7) 205 kpf), (wAr y (a 8) 1230 hsf), (wAr y (a 9) 410 slf)] [(wMo y a q_rc is_ pd pn ho eh mv at_ tk fs lt ea), (wAr y (a 6) 205 q_stf), (wAr y (a 7) 205 kpf), (wAr y (a 8) 1230 q_hsf), (wAr y (a 9) 410 slf)] rr := by
  intro sz
  refine jmet (Qc := (fun A => va_Qi (fun v (_ : Unit) => v = jI rr) (jB D A [(wMo y a q_rc is_ pd pn ho eh mv at_ tk fs lt ea), (wAr y (a 6) 205 q_stf), (wAr y (a 7) 205 kpf), (wAr y (a 8) 1230 q_hsf), (wAr y (a 9) 410 slf)]) A)) (cc := cX5_accent) (maxL := 4) (ret := (some .int)) (own := RX5) (by decide) rfl (Nat.le_of_ble_eq_true rfl) rfl (fun p e s m R args below meth c A ls hR_ hargs_ hx_ hb_ hr_ hlocks_ hml_ hown_ hts_ hname_ hsz_ hP_ hD_ hA_ hM_ hl_ => ?_)
  have key_ : ∀ Q : State → Prop, (∀ (v9 : Int) (rc9 : Int) (stf9 : Int → Int) (hsf9 : Int → Int) (H : Heap) (locs : List Loc) (pc : Nat) (ls : Array Slot), some (v9, rc9, stf9, hsf9) = some (rr, q_rc, q_stf, q_hsf) → decode cX5_accent pc = .ok (.ireturn, 1) → va_P D vwCl [(wMo y a rc9 is_ pd pn ho eh mv at_ tk fs lt ea), (wAr y (a 6) 205 stf9), (wAr y (a 7) 205 kpf), (wAr y (a 8) 1230 hsf9), (wAr y (a 9) 410 slf)].flatten H → va_D A [(wMo y a rc9 is_ pd pn ho eh mv at_ tk fs lt ea), (wAr y (a 6) 205 stf9), (wAr y (a 7) 205 kpf), (wAr y (a 8) 1230 hsf9), (wAr y (a 9) 410 slf)].flatten → va_S A s.heap H locs → W p l e R s m args below meth c H locs 0 0 Q (F0 m pc ls [.int (jI v9)])) → W p l e R s m args below meth c s.heap [] 0 0 Q (F0 m 0 ls []) := by
    intro Q hE_
    have hS_ : va_S A s.heap s.heap [] := va_S.rf
    have hl_ : lv_has ls 4 [(0, .ref (a 0)), (1, .int (jI x1)), (2, .int (jI x2))] := hl_
    have hin_ : ∀ w ∈ u_ws RX5 TX5 16, w ∈ wsX5_accent := by decide +kernel
    unfold f_X5_accent at h_
    refine lv_aload_n hx_ hb_ dX5_accent_0 rfl (lv_at hl_ 0 rfl) ?_
    refine lv_iload_n hx_ hb_ dX5_accent_1 rfl (lv_at hl_ 1 rfl) ?_
    obtain ⟨v1, hv1, h_⟩ := jb_i h_
    refine jx_cvi (wr := []) (cw := [(wMo y a rc is_ pd pn ho eh mv at_ tk fs lt ea), (wAr y (a 6) 205 stf), (wAr y (a 7) 205 kpf), (wAr y (a 8) 1230 hsf), (wAr y (a 9) 410 slf)]) (cw1 := [(wMo y a rc is_ pd pn ho eh mv at_ tk fs lt ea), (wAr y (a 6) 205 stf), (wAr y (a 7) 205 kpf), (wAr y (a 8) 1230 hsf), (wAr y (a 9) 410 slf)]) (cs1 := [(wMo y a rc is_ pd pn ho eh mv at_ tk fs lt ea), (wAr y (a 6) 205 stf), (wAr y (a 7) 205 kpf), (wAr y (a 8) 1230 hsf), (wAr y (a 9) 410 slf)]) (As := [.int (jI x1)]) (rest := []) ⟨hx_, hb_, hml_, hown_, hts_⟩ hM_ hP_ hD_ hS_ hA_ (List.Perm.refl _) (List.Perm.refl _) (c_X5_isNote l D y z a rc is_ pd pn ho eh mv at_ tk fs lt ea stf kpf hsf slf x1 fu v1 hv1) 1 gX5_accent_X5_isNote rfl ⟨rfl, rfl⟩ (by decide +kernel) ⟨by rw [hR_]; exact Nat.le_of_ble_eq_true rfl, by rw [hR_]; exact Nat.le_of_ble_eq_true rfl⟩ 0 5 rfl rfl rfl rfl rfl hl_.1 (Nat.le_of_ble_eq_true rfl) dX5_accent_2 ⟨Nat.zero_le _, Nat.zero_le _⟩ (fun H locs hP_ hD_ hS_ => ?_)
    refine jx_if_ne (tgt := 10) hx_ hb_ h_ dX5_accent_5 (by decide) (fun h_ => ?_) (fun h_ => ?_)
    · refine lv_aload_n hx_ hb_ dX5_accent_10 rfl (lv_at hl_ 0 rfl) ?_
      obtain ⟨rc_m2, hsf_m3, hrc_m2, h_⟩ := jb2_i h_
      refine jx_cvv (rv := 0) (wr := []) (cw := [(wMo y a rc is_ pd pn ho eh mv at_ tk fs lt ea), (wAr y (a 6) 205 stf), (wAr y (a 7) 205 kpf), (wAr y (a 8) 1230 hsf), (wAr y (a 9) 410 slf)]) (cw1 := [(wMo y a rc_m2 is_ pd pn ho eh mv at_ tk fs lt ea), (wAr y (a 6) 205 stf), (wAr y (a 7) 205 kpf), (wAr y (a 8) 1230 hsf_m3), (wAr y (a 9) 410 slf)]) (cs1 := [(wMo y a rc_m2 is_ pd pn ho eh mv at_ tk fs lt ea), (wAr y (a 6) 205 stf), (wAr y (a 7) 205 kpf), (wAr y (a 8) 1230 hsf_m3), (wAr y (a 9) 410 slf)]) (As := []) (rest := []) ⟨hx_, hb_, hml_, hown_, hts_⟩ hM_ hP_ hD_ hS_ hA_ (List.Perm.refl _) (List.Perm.refl _) (c_X5_record l D y z a rc is_ pd pn ho eh mv at_ tk fs lt ea stf kpf hsf slf fu rc_m2 hsf_m3 hrc_m2) 0 gX5_accent_X5_record rfl ⟨rfl, rfl⟩ (by decide +kernel) ⟨by rw [hR_]; exact Nat.le_of_ble_eq_true rfl, by rw [hR_]; exact Nat.le_of_ble_eq_true rfl⟩ 0 5 rfl rfl rfl rfl rfl hl_.1 (Nat.le_of_ble_eq_true rfl) dX5_accent_11 ⟨Nat.zero_le _, Nat.zero_le _⟩ (fun H locs hP_ hD_ hS_ => ?_)
      refine lv_aload_n hx_ hb_ dX5_accent_14 rfl (lv_at hl_ 0 rfl) ?_
      refine lv_iload_n hx_ hb_ dX5_accent_15 rfl (lv_at hl_ 1 rfl) ?_
      refine lv_iconst (v := jI 4) hx_ hb_ dX5_accent_16 (by decide +kernel) ?_
      obtain ⟨v4, hv4, h_⟩ := jb_i h_
      refine jx_cvi (wr := []) (cw := [(wMo y a rc_m2 is_ pd pn ho eh mv at_ tk fs lt ea), (wAr y (a 6) 205 stf), (wAr y (a 7) 205 kpf), (wAr y (a 8) 1230 hsf_m3), (wAr y (a 9) 410 slf)]) (cw1 := [(wMo y a rc_m2 is_ pd pn ho eh mv at_ tk fs lt ea), (wAr y (a 6) 205 stf), (wAr y (a 7) 205 kpf), (wAr y (a 8) 1230 hsf_m3), (wAr y (a 9) 410 slf)]) (cs1 := [(wMo y a rc_m2 is_ pd pn ho eh mv at_ tk fs lt ea), (wAr y (a 6) 205 stf), (wAr y (a 7) 205 kpf), (wAr y (a 8) 1230 hsf_m3), (wAr y (a 9) 410 slf)]) (As := [.int (jI x1), .int (jI 4)]) (rest := []) ⟨hx_, hb_, hml_, hown_, hts_⟩ hM_ hP_ hD_ hS_ hA_ (List.Perm.refl _) (List.Perm.refl _) (c_X5_part l D y z a rc_m2 is_ pd pn ho eh mv at_ tk fs lt ea stf kpf hsf_m3 slf x1 4 fu v4 hv4) 2 gX5_accent_X5_part rfl ⟨rfl, rfl⟩ (by decide +kernel) ⟨by rw [hR_]; exact Nat.le_of_ble_eq_true rfl, by rw [hR_]; exact Nat.le_of_ble_eq_true rfl⟩ 0 5 rfl rfl rfl rfl rfl hl_.1 (Nat.le_of_ble_eq_true rfl) dX5_accent_17 ⟨Nat.zero_le _, Nat.zero_le _⟩ (fun H locs hP_ hD_ hS_ => ?_)
      refine lv_istore_n (lv' := [(3, .int (jI v4)), (0, .ref (a 0)), (1, .int (jI x1)), (2, .int (jI x2))]) hx_ hb_ dX5_accent_20 rfl hl_ (by decide) rfl (fun ls hl_ => ?_)
      refine lv_aload_n hx_ hb_ dX5_accent_21 rfl (lv_at hl_ 1 rfl) ?_
      refine lv_iload_n hx_ hb_ dX5_accent_22 rfl (lv_at hl_ 2 rfl) ?_
      refine lv_iconst (v := jI 4) hx_ hb_ dX5_accent_23 (by decide +kernel) ?_
      refine lv_iload_n hx_ hb_ dX5_accent_24 rfl (lv_at hl_ 3 rfl) ?_
      have hJ33 : ∀ (v5 : Int) (H : Heap) (locs : List Loc) (ls : Array Slot), f_X5_accent_J33 fu stf x1 rc_m2 hsf_m3 v4 v5 = some (rr, q_rc, q_stf, q_hsf) → va_P D vwCl [(wMo y a rc_m2 is_ pd pn ho eh mv at_ tk fs lt ea), (wAr y (a 6) 205 stf), (wAr y (a 7) 205 kpf), (wAr y (a 8) 1230 hsf_m3), (wAr y (a 9) 410 slf)].flatten H → va_D A [(wMo y a rc_m2 is_ pd pn ho eh mv at_ tk fs lt ea), (wAr y (a 6) 205 stf), (wAr y (a 7) 205 kpf), (wAr y (a 8) 1230 hsf_m3), (wAr y (a 9) 410 slf)].flatten → va_S A s.heap H locs → lv_has ls 4 [(3, .int (jI v4))] → W p l e R s m args below meth c H locs 0 0 Q (F0 m 33 ls [.int (jI v5), .int (jI 4), .int (jI x1), .ref (a 0)]) := by
        intro v5 H locs ls h_ hP_ hD_ hS_ hl_
        unfold f_X5_accent_J33 at h_
        obtain ⟨stf_m6, hstf_m6, h_⟩ := jb_i h_
        refine jx_cvv (rv := 0) (wr := []) (cw := [(wMo y a rc_m2 is_ pd pn ho eh mv at_ tk fs lt ea), (wAr y (a 6) 205 stf), (wAr y (a 7) 205 kpf), (wAr y (a 8) 1230 hsf_m3), (wAr y (a 9) 410 slf)]) (cw1 := [(wMo y a rc_m2 is_ pd pn ho eh mv at_ tk fs lt ea), (wAr y (a 6) 205 stf_m6), (wAr y (a 7) 205 kpf), (wAr y (a 8) 1230 hsf_m3), (wAr y (a 9) 410 slf)]) (cs1 := [(wMo y a rc_m2 is_ pd pn ho eh mv at_ tk fs lt ea), (wAr y (a 6) 205 stf_m6), (wAr y (a 7) 205 kpf), (wAr y (a 8) 1230 hsf_m3), (wAr y (a 9) 410 slf)]) (As := [.int (jI x1), .int (jI 4), .int (jI v5)]) (rest := []) ⟨hx_, hb_, hml_, hown_, hts_⟩ hM_ hP_ hD_ hS_ hA_ (List.Perm.refl _) (List.Perm.refl _) (c_X5_setPart l D y z a rc_m2 is_ pd pn ho eh mv at_ tk fs lt ea stf kpf hsf_m3 slf x1 4 v5 fu stf_m6 hstf_m6) 3 gX5_accent_X5_setPart rfl ⟨rfl, rfl⟩ (by decide +kernel) ⟨by rw [hR_]; exact Nat.le_of_ble_eq_true rfl, by rw [hR_]; exact Nat.le_of_ble_eq_true rfl⟩ 0 5 rfl rfl rfl rfl rfl hl_.1 (Nat.le_of_ble_eq_true rfl) dX5_accent_33 ⟨Nat.zero_le _, Nat.zero_le _⟩ (fun H locs hP_ hD_ hS_ => ?_)
        refine lv_iload_n hx_ hb_ dX5_accent_36 rfl (lv_at hl_ 0 rfl) ?_
        exact hE_ _ _ _ _ _ _ _ _ h_ dX5_accent_37 hP_ hD_ hS_
      refine jx_if_eq (tgt := 32) hx_ hb_ h_ dX5_accent_25 (by decide) (fun h_ => ?_) (fun h_ => ?_)
      · refine lv_iconst (v := jI 0) hx_ hb_ dX5_accent_32 (by decide +kernel) ?_
        exact hJ33 _ _ _ ls h_ hP_ hD_ hS_ (lv_sub hl_ [0] rfl)
      · refine lv_iconst (v := jI 1) hx_ hb_ dX5_accent_28 (by decide +kernel) ?_
        refine lv_goto (tgt := 33) hx_ hb_ dX5_accent_29 (by decide) ?_
        exact hJ33 _ _ _ ls h_ hP_ hD_ hS_ (lv_sub hl_ [0] rfl)
    · refine lv_iconst (v := jI (-1)) hx_ hb_ dX5_accent_8 (by decide +kernel) ?_
      exact hE_ _ _ _ _ _ _ _ _ h_ dX5_accent_9 hP_ hD_ hS_
  exact key_ _ (fun v9 rc9 stf9 hsf9 H locs pc ls h9_ hdg_ hP_ hD_ hS_ => by cases h9_; exact jend_i hx_ hb_ hr_ hlocks_ hP_ hD_ hS_ hdg_)
def rm_X5_insert : Room := { frames := 2, cells := 0, slots := 0, locals := 45 }
set_option maxRecDepth 100000 in
set_option maxHeartbeats 8000000 in
theorem c_X5_insert (l : Launch) (D : va_G) (y : Nat → ClassId) (z : Nat → Nat) (a : Nat → Nat) (rc : Int) (is_ : Int → Int) (pd : Int → Int) (pn : Int) (ho : Int → Int) (eh : Int → Int) (mv : Int → Int) (at_ : Int) (tk : Int) (fs : Int) (lt : Int) (ea : Int) (stf : Int → Int) (kpf : Int → Int) (hsf : Int → Int) (slf : Int → Int) (x1 : Int) (x2 : Int) (fu : Nat) (rr : Int) (q_rc : Int) (q_stf : Int → Int) (q_hsf : Int → Int) (h_ : f_X5_insert fu rc stf hsf x1 x2 = some (rr, q_rc, q_stf, q_hsf)) : jCI l D y z yX5_insert wsX5_insert rm_X5_insert [.ref (a 0), .int (jI x1), .int (jI x2)] [(wMo y a rc is_ pd pn ho eh mv at_ tk fs lt ea), (wAr y (a 6) 205 stf), (wAr y (a 7) 205 kpf), (wAr y (a 8) 1230 hsf), (wAr y (a 9) 410 slf)] [(wMo y a q_rc is_ pd pn ho eh mv at_ tk fs lt ea), (wAr y (a 6) 205 q_stf), (wAr y (a 7) 205 kpf), (wAr y (a 8) 1230 q_hsf), (wAr y (a 9) 410 slf)] rr := by
  intro sz
  refine jmet (Qc := (fun A => va_Qi (fun v (_ : Unit) => v = jI rr) (jB D A [(wMo y a q_rc is_ pd pn ho eh mv at_ tk fs lt ea), (wAr y (a 6) 205 q_stf), (wAr y (a 7) 205 kpf), (wAr y (a 8) 1230 q_hsf), (wAr y (a 9) 410 slf)]) A)) (cc := cX5_insert) (maxL := 7) (ret := (some .int)) (own := RX5) (by decide) rfl (Nat.le_of_ble_eq_true rfl) rfl (fun p e s m R args below meth c A ls hR_ hargs_ hx_ hb_ hr_ hlocks_ hml_ hown_ hts_ hname_ hsz_ hP_ hD_ hA_ hM_ hl_ => ?_)
  have key_ : ∀ Q : State → Prop, (∀ (v9 : Int) (rc9 : Int) (stf9 : Int → Int) (hsf9 : Int → Int) (H : Heap) (locs : List Loc) (pc : Nat) (ls : Array Slot), some (v9, rc9, stf9, hsf9) = some (rr, q_rc, q_stf, q_hsf) → decode cX5_insert pc = .ok (.ireturn, 1) → va_P D vwCl [(wMo y a rc9 is_ pd pn ho eh mv at_ tk fs lt ea), (wAr y (a 6) 205 stf9), (wAr y (a 7) 205 kpf), (wAr y (a 8) 1230 hsf9), (wAr y (a 9) 410 slf)].flatten H → va_D A [(wMo y a rc9 is_ pd pn ho eh mv at_ tk fs lt ea), (wAr y (a 6) 205 stf9), (wAr y (a 7) 205 kpf), (wAr y (a 8) 1230 hsf9), (wAr y (a 9) 410 slf)].flatten → va_S A s.heap H locs → W p l e R s m args below meth c H locs 0 0 Q (F0 m pc ls [.int (jI v9)])) → W p l e R s m args below meth c s.heap [] 0 0 Q (F0 m 0 ls []) := by
    intro Q hE_
    have hS_ : va_S A s.heap s.heap [] := va_S.rf
    have hl_ : lv_has ls 7 [(0, .ref (a 0)), (1, .int (jI x1)), (2, .int (jI x2))] := hl_
    have hin_ : ∀ w ∈ u_ws RX5 TX5 16, w ∈ wsX5_insert := by decide +kernel
    unfold f_X5_insert at h_
    refine lv_iload_n hx_ hb_ dX5_insert_0 rfl (lv_at hl_ 1 rfl) ?_
    obtain ⟨v1, hv1, h_⟩ := jb_i h_
    refine jx_csi (b := 0) (C := "") (wr := [(wMo y a rc is_ pd pn ho eh mv at_ tk fs lt ea), (wAr y (a 6) 205 stf), (wAr y (a 7) 205 kpf), (wAr y (a 8) 1230 hsf), (wAr y (a 9) 410 slf)]) (cw := []) (cw1 := []) (cs1 := [(wMo y a rc is_ pd pn ho eh mv at_ tk fs lt ea), (wAr y (a 6) 205 stf), (wAr y (a 7) 205 kpf), (wAr y (a 8) 1230 hsf), (wAr y (a 9) 410 slf)]) (As := [.int (jI x1)]) (rest := []) ⟨hx_, hb_, hml_, hown_, hts_⟩ hM_ hP_ hD_ hS_ hA_ (List.Perm.of_eq (List.append_nil _).symm) (List.Perm.of_eq (List.append_nil _)) (c_X5_isStep l D y z x1 fu v1 hv1) 1 (va_cwS 1 hts_ gX5_insert_X5_isStep rfl rfl rfl (by decide +kernel) ⟨by rw [hR_]; exact Nat.le_of_ble_eq_true rfl, by rw [hR_]; exact Nat.le_of_ble_eq_true rfl⟩) rfl ⟨rfl, rfl⟩ ⟨by rw [hR_]; exact Nat.le_of_ble_eq_true rfl, by rw [hR_]; exact Nat.le_of_ble_eq_true rfl⟩ rfl rfl hl_.1 (Nat.le_of_ble_eq_true rfl) dX5_insert_1 ⟨Nat.zero_le _, Nat.zero_le _⟩ (fun H locs hP_ hD_ hS_ => ?_)
    refine jx_if_eq (tgt := 17) hx_ hb_ h_ dX5_insert_4 (by decide) (fun h_ => ?_) (fun h_ => ?_)
    · refine lv_bipush (v := jI (-2)) hx_ hb_ dX5_insert_17 (by decide +kernel) ?_
      exact hE_ _ _ _ _ _ _ _ _ h_ dX5_insert_19 hP_ hD_ hS_
    · refine lv_iload_n hx_ hb_ dX5_insert_7 rfl (lv_at hl_ 2 rfl) ?_
      refine lv_iconst (v := jI 1) hx_ hb_ dX5_insert_8 (by decide +kernel) ?_
      refine lv_bipush (v := jI 50) hx_ hb_ dX5_insert_9 (by decide +kernel) ?_
      obtain ⟨v2, hv2, h_⟩ := jb_i h_
      refine jx_csi (b := 0) (C := "") (wr := [(wMo y a rc is_ pd pn ho eh mv at_ tk fs lt ea), (wAr y (a 6) 205 stf), (wAr y (a 7) 205 kpf), (wAr y (a 8) 1230 hsf), (wAr y (a 9) 410 slf)]) (cw := []) (cw1 := []) (cs1 := [(wMo y a rc is_ pd pn ho eh mv at_ tk fs lt ea), (wAr y (a 6) 205 stf), (wAr y (a 7) 205 kpf), (wAr y (a 8) 1230 hsf), (wAr y (a 9) 410 slf)]) (As := [.int (jI x2), .int (jI 1), .int (jI 50)]) (rest := []) ⟨hx_, hb_, hml_, hown_, hts_⟩ hM_ hP_ hD_ hS_ hA_ (List.Perm.of_eq (List.append_nil _).symm) (List.Perm.of_eq (List.append_nil _)) (c_X5_within l D y z x2 1 50 fu v2 hv2) 3 (va_cwS 3 hts_ gX5_insert_X5_within rfl rfl rfl (by decide +kernel) ⟨by rw [hR_]; exact Nat.le_of_ble_eq_true rfl, by rw [hR_]; exact Nat.le_of_ble_eq_true rfl⟩) rfl ⟨rfl, rfl⟩ ⟨by rw [hR_]; exact Nat.le_of_ble_eq_true rfl, by rw [hR_]; exact Nat.le_of_ble_eq_true rfl⟩ rfl rfl hl_.1 (Nat.le_of_ble_eq_true rfl) dX5_insert_11 ⟨Nat.zero_le _, Nat.zero_le _⟩ (fun H locs hP_ hD_ hS_ => ?_)
      refine jx_if_ne (tgt := 20) hx_ hb_ h_ dX5_insert_14 (by decide) (fun h_ => ?_) (fun h_ => ?_)
      · refine lv_iconst (v := jI 0) hx_ hb_ dX5_insert_20 (by decide +kernel) ?_
        refine lv_istore_n (lv' := [(3, .int (jI 0)), (0, .ref (a 0)), (1, .int (jI x1)), (2, .int (jI x2))]) hx_ hb_ dX5_insert_21 rfl hl_ (by decide) rfl (fun ls hl_ => ?_)
        have hX64 : ∀  (H : Heap) (locs : List Loc) (ls : Array Slot), f_X5_insert_X64 fu rc stf hsf x1 x2 = some (rr, q_rc, q_stf, q_hsf) → va_P D vwCl [(wMo y a rc is_ pd pn ho eh mv at_ tk fs lt ea), (wAr y (a 6) 205 stf), (wAr y (a 7) 205 kpf), (wAr y (a 8) 1230 hsf), (wAr y (a 9) 410 slf)].flatten H → va_D A [(wMo y a rc is_ pd pn ho eh mv at_ tk fs lt ea), (wAr y (a 6) 205 stf), (wAr y (a 7) 205 kpf), (wAr y (a 8) 1230 hsf), (wAr y (a 9) 410 slf)].flatten → va_S A s.heap H locs → lv_has ls 7 [(0, .ref (a 0)), (1, .int (jI x1)), (2, .int (jI x2))] → W p l e R s m args below meth c H locs 0 0 Q (F0 m 64 ls []) := by
          intro  H locs ls h_ hP_ hD_ hS_ hl_
          unfold f_X5_insert_X64 at h_
          refine lv_aload_n hx_ hb_ dX5_insert_64 rfl (lv_at hl_ 0 rfl) ?_
          obtain ⟨rc_m3, hsf_m4, hrc_m3, h_⟩ := jb2_i h_
          refine jx_cvv (rv := 0) (wr := []) (cw := [(wMo y a rc is_ pd pn ho eh mv at_ tk fs lt ea), (wAr y (a 6) 205 stf), (wAr y (a 7) 205 kpf), (wAr y (a 8) 1230 hsf), (wAr y (a 9) 410 slf)]) (cw1 := [(wMo y a rc_m3 is_ pd pn ho eh mv at_ tk fs lt ea), (wAr y (a 6) 205 stf), (wAr y (a 7) 205 kpf), (wAr y (a 8) 1230 hsf_m4), (wAr y (a 9) 410 slf)]) (cs1 := [(wMo y a rc_m3 is_ pd pn ho eh mv at_ tk fs lt ea), (wAr y (a 6) 205 stf), (wAr y (a 7) 205 kpf), (wAr y (a 8) 1230 hsf_m4), (wAr y (a 9) 410 slf)]) (As := []) (rest := []) ⟨hx_, hb_, hml_, hown_, hts_⟩ hM_ hP_ hD_ hS_ hA_ (List.Perm.refl _) (List.Perm.refl _) (c_X5_record l D y z a rc is_ pd pn ho eh mv at_ tk fs lt ea stf kpf hsf slf fu rc_m3 hsf_m4 hrc_m3) 0 gX5_insert_X5_record rfl ⟨rfl, rfl⟩ (by decide +kernel) ⟨by rw [hR_]; exact Nat.le_of_ble_eq_true rfl, by rw [hR_]; exact Nat.le_of_ble_eq_true rfl⟩ 0 5 rfl rfl rfl rfl rfl hl_.1 (Nat.le_of_ble_eq_true rfl) dX5_insert_65 ⟨Nat.zero_le _, Nat.zero_le _⟩ (fun H locs hP_ hD_ hS_ => ?_)
          refine lv_iconst (v := jI 0) hx_ hb_ dX5_insert_68 (by decide +kernel) ?_
          refine lv_istore_n (lv' := [(3, .int (jI 0)), (0, .ref (a 0)), (1, .int (jI x1)), (2, .int (jI x2))]) hx_ hb_ dX5_insert_69 rfl hl_ (by decide) rfl (fun ls hl_ => ?_)
          refine lv_iconst (v := jI 0) hx_ hb_ dX5_insert_70 (by decide +kernel) ?_
          refine lv_istore (lv' := [(4, .int (jI 0)), (3, .int (jI 0)), (0, .ref (a 0)), (1, .int (jI x1)), (2, .int (jI x2))]) hx_ hb_ dX5_insert_71 hl_ (by decide) rfl (fun ls hl_ => ?_)
          have hX199 : ∀ (rc_m5 : Int) (stf_m6 : Int → Int) (hsf_m7 : Int → Int) (v8 : Int) (H : Heap) (locs : List Loc) (ls : Array Slot), f_X5_insert_X199 fu rc_m5 stf_m6 hsf_m7 v8 = some (rr, q_rc, q_stf, q_hsf) → va_P D vwCl [(wMo y a rc_m5 is_ pd pn ho eh mv at_ tk fs lt ea), (wAr y (a 6) 205 stf_m6), (wAr y (a 7) 205 kpf), (wAr y (a 8) 1230 hsf_m7), (wAr y (a 9) 410 slf)].flatten H → va_D A [(wMo y a rc_m5 is_ pd pn ho eh mv at_ tk fs lt ea), (wAr y (a 6) 205 stf_m6), (wAr y (a 7) 205 kpf), (wAr y (a 8) 1230 hsf_m7), (wAr y (a 9) 410 slf)].flatten → va_S A s.heap H locs → lv_has ls 7 [(3, .int (jI v8))] → W p l e R s m args below meth c H locs 0 0 Q (F0 m 199 ls []) := by
            intro rc_m5 stf_m6 hsf_m7 v8 H locs ls h_ hP_ hD_ hS_ hl_
            unfold f_X5_insert_X199 at h_
            refine lv_iload_n hx_ hb_ dX5_insert_199 rfl (lv_at hl_ 0 rfl) ?_
            exact hE_ _ _ _ _ _ _ _ _ h_ dX5_insert_200 hP_ hD_ hS_
          have hL73 : ∀ n73 : Nat, ∀ (rc_m9 : Int) (stf_m10 : Int → Int) (hsf_m11 : Int → Int) (v12 : Int) (v13 : Int) (H : Heap) (locs : List Loc) (ls : Array Slot), f_X5_insert_L73 fu x1 x2 (f_X5_insert_X199 fu) n73 rc_m9 stf_m10 hsf_m11 v12 v13 = some (rr, q_rc, q_stf, q_hsf) → va_P D vwCl [(wMo y a rc_m9 is_ pd pn ho eh mv at_ tk fs lt ea), (wAr y (a 6) 205 stf_m10), (wAr y (a 7) 205 kpf), (wAr y (a 8) 1230 hsf_m11), (wAr y (a 9) 410 slf)].flatten H → va_D A [(wMo y a rc_m9 is_ pd pn ho eh mv at_ tk fs lt ea), (wAr y (a 6) 205 stf_m10), (wAr y (a 7) 205 kpf), (wAr y (a 8) 1230 hsf_m11), (wAr y (a 9) 410 slf)].flatten → va_S A s.heap H locs → lv_has ls 7 [(0, .ref (a 0)), (1, .int (jI x1)), (2, .int (jI x2)), (3, .int (jI v12)), (4, .int (jI v13))] → W p l e R s m args below meth c H locs 0 0 Q (F0 m 73 ls []) := by
            intro n73
            induction n73 with
            | zero => intro _ _ _ _ _ H locs ls h_; have h_ : (none : Option (Int × Int × (Int → Int) × (Int → Int))) = some (rr, q_rc, q_stf, q_hsf) := h_; cases h_
            | succ n73 ih73 =>
              intro rc_m9 stf_m10 hsf_m11 v12 v13 H locs ls h_ hP_ hD_ hS_ hl_
              replace h_ : f_X5_insert_L73_b fu x1 x2 (f_X5_insert_X199 fu) (f_X5_insert_L73 fu x1 x2 (f_X5_insert_X199 fu) n73) rc_m9 stf_m10 hsf_m11 v12 v13 = some (rr, q_rc, q_stf, q_hsf) := h_
              unfold f_X5_insert_L73_b at h_
              refine lv_iload hx_ hb_ dX5_insert_73 (lv_at hl_ 4 rfl) ?_
              refine lv_aload_n hx_ hb_ dX5_insert_75 rfl (lv_at hl_ 0 rfl) ?_
              refine va_get (D := D) (ci := 5) (v := .ref (a 6)) (C := RX5) (T := TX5) (N := 16) hx_ hb_ hts_ hin_ hown_ hM_.1 hP_ 0 rfl rfl 0 (by decide) (hts_ (.fieldLink RX5 7 "MusicHolesModel" "state" "[I") (by decide +kernel)) (fun _ h9_ => h9_) rfl dX5_insert_76 ?_
              refine lv_iconst (v := jI 4) hx_ hb_ dX5_insert_79 (by decide +kernel) ?_
              refine jx_iald hx_ hb_ hM_ hP_ 6 0 rfl rfl rfl (Nat.le_of_ble_eq_true rfl) h_ dX5_insert_80 (fun h_ => ?_)
              refine jx_icmp_ge (tgt := 199) hx_ hb_ h_ dX5_insert_81 (by decide) (fun h_ => ?_) (fun h_ => ?_)
              · exact hX199 _ _ _ _ _ _ ls h_ hP_ hD_ hS_ (lv_sub hl_ [3] rfl)
              · refine lv_aload_n hx_ hb_ dX5_insert_84 rfl (lv_at hl_ 0 rfl) ?_
                refine lv_iload hx_ hb_ dX5_insert_85 (lv_at hl_ 4 rfl) ?_
                refine lv_iconst (v := jI 1) hx_ hb_ dX5_insert_87 (by decide +kernel) ?_
                obtain ⟨v14, hv14, h_⟩ := jb_i h_
                refine jx_cvi (wr := []) (cw := [(wMo y a rc_m9 is_ pd pn ho eh mv at_ tk fs lt ea), (wAr y (a 6) 205 stf_m10), (wAr y (a 7) 205 kpf), (wAr y (a 8) 1230 hsf_m11), (wAr y (a 9) 410 slf)]) (cw1 := [(wMo y a rc_m9 is_ pd pn ho eh mv at_ tk fs lt ea), (wAr y (a 6) 205 stf_m10), (wAr y (a 7) 205 kpf), (wAr y (a 8) 1230 hsf_m11), (wAr y (a 9) 410 slf)]) (cs1 := [(wMo y a rc_m9 is_ pd pn ho eh mv at_ tk fs lt ea), (wAr y (a 6) 205 stf_m10), (wAr y (a 7) 205 kpf), (wAr y (a 8) 1230 hsf_m11), (wAr y (a 9) 410 slf)]) (As := [.int (jI v13), .int (jI 1)]) (rest := []) ⟨hx_, hb_, hml_, hown_, hts_⟩ hM_ hP_ hD_ hS_ hA_ (List.Perm.refl _) (List.Perm.refl _) (c_X5_part l D y z a rc_m9 is_ pd pn ho eh mv at_ tk fs lt ea stf_m10 kpf hsf_m11 slf v13 1 fu v14 hv14) 2 gX5_insert_X5_part rfl ⟨rfl, rfl⟩ (by decide +kernel) ⟨by rw [hR_]; exact Nat.le_of_ble_eq_true rfl, by rw [hR_]; exact Nat.le_of_ble_eq_true rfl⟩ 0 5 rfl rfl rfl rfl rfl hl_.1 (Nat.le_of_ble_eq_true rfl) dX5_insert_88 ⟨Nat.zero_le _, Nat.zero_le _⟩ (fun H locs hP_ hD_ hS_ => ?_)
                refine lv_iload_n hx_ hb_ dX5_insert_91 rfl (lv_at hl_ 1 rfl) ?_
                have hJ100 : ∀ (v15 : Int) (H : Heap) (locs : List Loc) (ls : Array Slot), f_X5_insert_J100 fu x1 x2 rc_m9 stf_m10 hsf_m11 v12 v13 (f_X5_insert_L73 fu x1 x2 (f_X5_insert_X199 fu) n73) v15 = some (rr, q_rc, q_stf, q_hsf) → va_P D vwCl [(wMo y a rc_m9 is_ pd pn ho eh mv at_ tk fs lt ea), (wAr y (a 6) 205 stf_m10), (wAr y (a 7) 205 kpf), (wAr y (a 8) 1230 hsf_m11), (wAr y (a 9) 410 slf)].flatten H → va_D A [(wMo y a rc_m9 is_ pd pn ho eh mv at_ tk fs lt ea), (wAr y (a 6) 205 stf_m10), (wAr y (a 7) 205 kpf), (wAr y (a 8) 1230 hsf_m11), (wAr y (a 9) 410 slf)].flatten → va_S A s.heap H locs → lv_has ls 7 [(0, .ref (a 0)), (1, .int (jI x1)), (2, .int (jI x2)), (3, .int (jI v12)), (4, .int (jI v13))] → W p l e R s m args below meth c H locs 0 0 Q (F0 m 100 ls [.int (jI v15)]) := by
                  intro v15 H locs ls h_ hP_ hD_ hS_ hl_
                  unfold f_X5_insert_J100 at h_
                  refine lv_istore (lv' := [(5, .int (jI v15)), (0, .ref (a 0)), (1, .int (jI x1)), (2, .int (jI x2)), (3, .int (jI v12)), (4, .int (jI v13))]) hx_ hb_ dX5_insert_100 hl_ (by decide) rfl (fun ls hl_ => ?_)
                  refine lv_iload hx_ hb_ dX5_insert_102 (lv_at hl_ 0 rfl) ?_
                  have hJ123 : ∀ (v16 : Int) (H : Heap) (locs : List Loc) (ls : Array Slot), f_X5_insert_J123 fu x2 rc_m9 stf_m10 hsf_m11 v12 v13 v15 (f_X5_insert_L73 fu x1 x2 (f_X5_insert_X199 fu) n73) v16 = some (rr, q_rc, q_stf, q_hsf) → va_P D vwCl [(wMo y a rc_m9 is_ pd pn ho eh mv at_ tk fs lt ea), (wAr y (a 6) 205 stf_m10), (wAr y (a 7) 205 kpf), (wAr y (a 8) 1230 hsf_m11), (wAr y (a 9) 410 slf)].flatten H → va_D A [(wMo y a rc_m9 is_ pd pn ho eh mv at_ tk fs lt ea), (wAr y (a 6) 205 stf_m10), (wAr y (a 7) 205 kpf), (wAr y (a 8) 1230 hsf_m11), (wAr y (a 9) 410 slf)].flatten → va_S A s.heap H locs → lv_has ls 7 [(0, .ref (a 0)), (1, .int (jI x1)), (2, .int (jI x2)), (3, .int (jI v12)), (4, .int (jI v13)), (5, .int (jI v15))] → W p l e R s m args below meth c H locs 0 0 Q (F0 m 123 ls [.int (jI v16)]) := by
                    intro v16 H locs ls h_ hP_ hD_ hS_ hl_
                    unfold f_X5_insert_J123 at h_
                    refine lv_istore (lv' := [(6, .int (jI v16)), (0, .ref (a 0)), (1, .int (jI x1)), (2, .int (jI x2)), (3, .int (jI v12)), (4, .int (jI v13)), (5, .int (jI v15))]) hx_ hb_ dX5_insert_123 hl_ (by decide) rfl (fun ls hl_ => ?_)
                    refine lv_iload_n hx_ hb_ dX5_insert_125 rfl (lv_at hl_ 4 rfl) ?_
                    refine lv_iload hx_ hb_ dX5_insert_126 (lv_at hl_ 0 rfl) ?_
                    have hJ136 : ∀ (v17 : Int) (H : Heap) (locs : List Loc) (ls : Array Slot), f_X5_insert_J136 fu x2 rc_m9 stf_m10 hsf_m11 v12 v13 v15 v16 (f_X5_insert_L73 fu x1 x2 (f_X5_insert_X199 fu) n73) v17 = some (rr, q_rc, q_stf, q_hsf) → va_P D vwCl [(wMo y a rc_m9 is_ pd pn ho eh mv at_ tk fs lt ea), (wAr y (a 6) 205 stf_m10), (wAr y (a 7) 205 kpf), (wAr y (a 8) 1230 hsf_m11), (wAr y (a 9) 410 slf)].flatten H → va_D A [(wMo y a rc_m9 is_ pd pn ho eh mv at_ tk fs lt ea), (wAr y (a 6) 205 stf_m10), (wAr y (a 7) 205 kpf), (wAr y (a 8) 1230 hsf_m11), (wAr y (a 9) 410 slf)].flatten → va_S A s.heap H locs → lv_has ls 7 [(0, .ref (a 0)), (1, .int (jI x1)), (2, .int (jI x2)), (4, .int (jI v13)), (5, .int (jI v15)), (6, .int (jI v16))] → W p l e R s m args below meth c H locs 0 0 Q (F0 m 136 ls [.int (jI v17), .int (jI v12)]) := by
                      intro v17 H locs ls h_ hP_ hD_ hS_ hl_
                      unfold f_X5_insert_J136 at h_
                      refine jx_iadd hx_ hb_ dX5_insert_136 ?_
                      refine lv_istore_n (lv' := [(3, .int (jI (v12 + v17))), (0, .ref (a 0)), (1, .int (jI x1)), (2, .int (jI x2)), (4, .int (jI v13)), (5, .int (jI v15)), (6, .int (jI v16))]) hx_ hb_ dX5_insert_137 rfl hl_ (by decide) rfl (fun ls hl_ => ?_)
                      refine lv_aload_n hx_ hb_ dX5_insert_138 rfl (lv_at hl_ 1 rfl) ?_
                      refine lv_iload hx_ hb_ dX5_insert_139 (lv_at hl_ 4 rfl) ?_
                      refine lv_iconst (v := jI 1) hx_ hb_ dX5_insert_141 (by decide +kernel) ?_
                      refine lv_aload_n hx_ hb_ dX5_insert_142 rfl (lv_at hl_ 1 rfl) ?_
                      refine lv_iload hx_ hb_ dX5_insert_143 (lv_at hl_ 4 rfl) ?_
                      refine lv_iconst (v := jI 1) hx_ hb_ dX5_insert_145 (by decide +kernel) ?_
                      obtain ⟨v18, hv18, h_⟩ := jb_i h_
                      refine jx_cvi (wr := []) (cw := [(wMo y a rc_m9 is_ pd pn ho eh mv at_ tk fs lt ea), (wAr y (a 6) 205 stf_m10), (wAr y (a 7) 205 kpf), (wAr y (a 8) 1230 hsf_m11), (wAr y (a 9) 410 slf)]) (cw1 := [(wMo y a rc_m9 is_ pd pn ho eh mv at_ tk fs lt ea), (wAr y (a 6) 205 stf_m10), (wAr y (a 7) 205 kpf), (wAr y (a 8) 1230 hsf_m11), (wAr y (a 9) 410 slf)]) (cs1 := [(wMo y a rc_m9 is_ pd pn ho eh mv at_ tk fs lt ea), (wAr y (a 6) 205 stf_m10), (wAr y (a 7) 205 kpf), (wAr y (a 8) 1230 hsf_m11), (wAr y (a 9) 410 slf)]) (As := [.int (jI v13), .int (jI 1)]) (rest := [.int (jI 1), .int (jI v13), .ref (a 0)]) ⟨hx_, hb_, hml_, hown_, hts_⟩ hM_ hP_ hD_ hS_ hA_ (List.Perm.refl _) (List.Perm.refl _) (c_X5_part l D y z a rc_m9 is_ pd pn ho eh mv at_ tk fs lt ea stf_m10 kpf hsf_m11 slf v13 1 fu v18 hv18) 2 gX5_insert_X5_part rfl ⟨rfl, rfl⟩ (by decide +kernel) ⟨by rw [hR_]; exact Nat.le_of_ble_eq_true rfl, by rw [hR_]; exact Nat.le_of_ble_eq_true rfl⟩ 0 5 rfl rfl rfl rfl rfl hl_.1 (Nat.le_of_ble_eq_true rfl) dX5_insert_146 ⟨Nat.zero_le _, Nat.zero_le _⟩ (fun H locs hP_ hD_ hS_ => ?_)
                      refine lv_iload hx_ hb_ dX5_insert_149 (lv_at hl_ 5 rfl) ?_
                      have hJ159 : ∀ (v19 : Int) (H : Heap) (locs : List Loc) (ls : Array Slot), f_X5_insert_J159 fu x2 rc_m9 stf_m10 hsf_m11 v12 v13 v15 v16 v17 v18 (f_X5_insert_L73 fu x1 x2 (f_X5_insert_X199 fu) n73) v19 = some (rr, q_rc, q_stf, q_hsf) → va_P D vwCl [(wMo y a rc_m9 is_ pd pn ho eh mv at_ tk fs lt ea), (wAr y (a 6) 205 stf_m10), (wAr y (a 7) 205 kpf), (wAr y (a 8) 1230 hsf_m11), (wAr y (a 9) 410 slf)].flatten H → va_D A [(wMo y a rc_m9 is_ pd pn ho eh mv at_ tk fs lt ea), (wAr y (a 6) 205 stf_m10), (wAr y (a 7) 205 kpf), (wAr y (a 8) 1230 hsf_m11), (wAr y (a 9) 410 slf)].flatten → va_S A s.heap H locs → lv_has ls 7 [(0, .ref (a 0)), (1, .int (jI x1)), (2, .int (jI x2)), (3, .int (jI (v12 + v17))), (4, .int (jI v13)), (5, .int (jI v15)), (6, .int (jI v16))] → W p l e R s m args below meth c H locs 0 0 Q (F0 m 159 ls [.int (jI v19), .int (jI v18), .int (jI 1), .int (jI v13), .ref (a 0)]) := by
                        intro v19 H locs ls h_ hP_ hD_ hS_ hl_
                        unfold f_X5_insert_J159 at h_
                        refine jx_iadd hx_ hb_ dX5_insert_159 ?_
                        obtain ⟨stf_m20, hstf_m20, h_⟩ := jb_i h_
                        refine jx_cvv (rv := 0) (wr := []) (cw := [(wMo y a rc_m9 is_ pd pn ho eh mv at_ tk fs lt ea), (wAr y (a 6) 205 stf_m10), (wAr y (a 7) 205 kpf), (wAr y (a 8) 1230 hsf_m11), (wAr y (a 9) 410 slf)]) (cw1 := [(wMo y a rc_m9 is_ pd pn ho eh mv at_ tk fs lt ea), (wAr y (a 6) 205 stf_m20), (wAr y (a 7) 205 kpf), (wAr y (a 8) 1230 hsf_m11), (wAr y (a 9) 410 slf)]) (cs1 := [(wMo y a rc_m9 is_ pd pn ho eh mv at_ tk fs lt ea), (wAr y (a 6) 205 stf_m20), (wAr y (a 7) 205 kpf), (wAr y (a 8) 1230 hsf_m11), (wAr y (a 9) 410 slf)]) (As := [.int (jI v13), .int (jI 1), .int (jI (v18 + v19))]) (rest := []) ⟨hx_, hb_, hml_, hown_, hts_⟩ hM_ hP_ hD_ hS_ hA_ (List.Perm.refl _) (List.Perm.refl _) (c_X5_setPart l D y z a rc_m9 is_ pd pn ho eh mv at_ tk fs lt ea stf_m10 kpf hsf_m11 slf v13 1 (v18 + v19) fu stf_m20 hstf_m20) 3 gX5_insert_X5_setPart rfl ⟨rfl, rfl⟩ (by decide +kernel) ⟨by rw [hR_]; exact Nat.le_of_ble_eq_true rfl, by rw [hR_]; exact Nat.le_of_ble_eq_true rfl⟩ 0 5 rfl rfl rfl rfl rfl hl_.1 (Nat.le_of_ble_eq_true rfl) dX5_insert_160 ⟨Nat.zero_le _, Nat.zero_le _⟩ (fun H locs hP_ hD_ hS_ => ?_)
                        refine lv_aload_n hx_ hb_ dX5_insert_163 rfl (lv_at hl_ 0 rfl) ?_
                        refine lv_iload hx_ hb_ dX5_insert_164 (lv_at hl_ 4 rfl) ?_
                        refine lv_iconst (v := jI 2) hx_ hb_ dX5_insert_166 (by decide +kernel) ?_
                        refine lv_aload_n hx_ hb_ dX5_insert_167 rfl (lv_at hl_ 0 rfl) ?_
                        refine lv_iload hx_ hb_ dX5_insert_168 (lv_at hl_ 4 rfl) ?_
                        refine lv_iconst (v := jI 2) hx_ hb_ dX5_insert_170 (by decide +kernel) ?_
                        obtain ⟨v21, hv21, h_⟩ := jb_i h_
                        refine jx_cvi (wr := []) (cw := [(wMo y a rc_m9 is_ pd pn ho eh mv at_ tk fs lt ea), (wAr y (a 6) 205 stf_m20), (wAr y (a 7) 205 kpf), (wAr y (a 8) 1230 hsf_m11), (wAr y (a 9) 410 slf)]) (cw1 := [(wMo y a rc_m9 is_ pd pn ho eh mv at_ tk fs lt ea), (wAr y (a 6) 205 stf_m20), (wAr y (a 7) 205 kpf), (wAr y (a 8) 1230 hsf_m11), (wAr y (a 9) 410 slf)]) (cs1 := [(wMo y a rc_m9 is_ pd pn ho eh mv at_ tk fs lt ea), (wAr y (a 6) 205 stf_m20), (wAr y (a 7) 205 kpf), (wAr y (a 8) 1230 hsf_m11), (wAr y (a 9) 410 slf)]) (As := [.int (jI v13), .int (jI 2)]) (rest := [.int (jI 2), .int (jI v13), .ref (a 0)]) ⟨hx_, hb_, hml_, hown_, hts_⟩ hM_ hP_ hD_ hS_ hA_ (List.Perm.refl _) (List.Perm.refl _) (c_X5_part l D y z a rc_m9 is_ pd pn ho eh mv at_ tk fs lt ea stf_m20 kpf hsf_m11 slf v13 2 fu v21 hv21) 2 gX5_insert_X5_part rfl ⟨rfl, rfl⟩ (by decide +kernel) ⟨by rw [hR_]; exact Nat.le_of_ble_eq_true rfl, by rw [hR_]; exact Nat.le_of_ble_eq_true rfl⟩ 0 5 rfl rfl rfl rfl rfl hl_.1 (Nat.le_of_ble_eq_true rfl) dX5_insert_171 ⟨Nat.zero_le _, Nat.zero_le _⟩ (fun H locs hP_ hD_ hS_ => ?_)
                        refine lv_iload hx_ hb_ dX5_insert_174 (lv_at hl_ 5 rfl) ?_
                        have hJ189 : ∀ (v22 : Int) (H : Heap) (locs : List Loc) (ls : Array Slot), f_X5_insert_J189 fu rc_m9 hsf_m11 v12 v13 v17 stf_m20 v21 (f_X5_insert_L73 fu x1 x2 (f_X5_insert_X199 fu) n73) v22 = some (rr, q_rc, q_stf, q_hsf) → va_P D vwCl [(wMo y a rc_m9 is_ pd pn ho eh mv at_ tk fs lt ea), (wAr y (a 6) 205 stf_m20), (wAr y (a 7) 205 kpf), (wAr y (a 8) 1230 hsf_m11), (wAr y (a 9) 410 slf)].flatten H → va_D A [(wMo y a rc_m9 is_ pd pn ho eh mv at_ tk fs lt ea), (wAr y (a 6) 205 stf_m20), (wAr y (a 7) 205 kpf), (wAr y (a 8) 1230 hsf_m11), (wAr y (a 9) 410 slf)].flatten → va_S A s.heap H locs → lv_has ls 7 [(0, .ref (a 0)), (1, .int (jI x1)), (2, .int (jI x2)), (3, .int (jI (v12 + v17))), (4, .int (jI v13))] → W p l e R s m args below meth c H locs 0 0 Q (F0 m 189 ls [.int (jI v22), .int (jI v21), .int (jI 2), .int (jI v13), .ref (a 0)]) := by
                          intro v22 H locs ls h_ hP_ hD_ hS_ hl_
                          unfold f_X5_insert_J189 at h_
                          refine jx_iadd hx_ hb_ dX5_insert_189 ?_
                          obtain ⟨stf_m23, hstf_m23, h_⟩ := jb_i h_
                          refine jx_cvv (rv := 0) (wr := []) (cw := [(wMo y a rc_m9 is_ pd pn ho eh mv at_ tk fs lt ea), (wAr y (a 6) 205 stf_m20), (wAr y (a 7) 205 kpf), (wAr y (a 8) 1230 hsf_m11), (wAr y (a 9) 410 slf)]) (cw1 := [(wMo y a rc_m9 is_ pd pn ho eh mv at_ tk fs lt ea), (wAr y (a 6) 205 stf_m23), (wAr y (a 7) 205 kpf), (wAr y (a 8) 1230 hsf_m11), (wAr y (a 9) 410 slf)]) (cs1 := [(wMo y a rc_m9 is_ pd pn ho eh mv at_ tk fs lt ea), (wAr y (a 6) 205 stf_m23), (wAr y (a 7) 205 kpf), (wAr y (a 8) 1230 hsf_m11), (wAr y (a 9) 410 slf)]) (As := [.int (jI v13), .int (jI 2), .int (jI (v21 + v22))]) (rest := []) ⟨hx_, hb_, hml_, hown_, hts_⟩ hM_ hP_ hD_ hS_ hA_ (List.Perm.refl _) (List.Perm.refl _) (c_X5_setPart l D y z a rc_m9 is_ pd pn ho eh mv at_ tk fs lt ea stf_m20 kpf hsf_m11 slf v13 2 (v21 + v22) fu stf_m23 hstf_m23) 3 gX5_insert_X5_setPart rfl ⟨rfl, rfl⟩ (by decide +kernel) ⟨by rw [hR_]; exact Nat.le_of_ble_eq_true rfl, by rw [hR_]; exact Nat.le_of_ble_eq_true rfl⟩ 0 5 rfl rfl rfl rfl rfl hl_.1 (Nat.le_of_ble_eq_true rfl) dX5_insert_190 ⟨Nat.zero_le _, Nat.zero_le _⟩ (fun H locs hP_ hD_ hS_ => ?_)
                          refine lv_iinc (v := jI (v13 + 1)) (lv' := [(4, .int (jI (v13 + 1))), (0, .ref (a 0)), (1, .int (jI x1)), (2, .int (jI x2)), (3, .int (jI (v12 + v17)))]) hx_ hb_ dX5_insert_193 hl_ (k := 4) rfl (jI_add _ _) (by decide) rfl (fun ls hl_ => ?_)
                          refine lv_goto (tgt := 73) hx_ hb_ dX5_insert_196 (by decide) ?_
                          exact ih73 _ _ _ _ _ _ _ ls h_ hP_ hD_ hS_ (lv_sub hl_ [1, 2, 3, 4, 0] rfl)
                        have hJ184 : ∀  (H : Heap) (locs : List Loc) (ls : Array Slot), f_X5_insert_J184 fu x2 rc_m9 hsf_m11 v12 v13 v17 stf_m20 v21 (f_X5_insert_L73 fu x1 x2 (f_X5_insert_X199 fu) n73) = some (rr, q_rc, q_stf, q_hsf) → va_P D vwCl [(wMo y a rc_m9 is_ pd pn ho eh mv at_ tk fs lt ea), (wAr y (a 6) 205 stf_m20), (wAr y (a 7) 205 kpf), (wAr y (a 8) 1230 hsf_m11), (wAr y (a 9) 410 slf)].flatten H → va_D A [(wMo y a rc_m9 is_ pd pn ho eh mv at_ tk fs lt ea), (wAr y (a 6) 205 stf_m20), (wAr y (a 7) 205 kpf), (wAr y (a 8) 1230 hsf_m11), (wAr y (a 9) 410 slf)].flatten → va_S A s.heap H locs → lv_has ls 7 [(0, .ref (a 0)), (1, .int (jI x1)), (2, .int (jI x2)), (3, .int (jI (v12 + v17))), (4, .int (jI v13))] → W p l e R s m args below meth c H locs 0 0 Q (F0 m 184 ls [.int (jI v21), .int (jI 2), .int (jI v13), .ref (a 0)]) := by
                          intro  H locs ls h_ hP_ hD_ hS_ hl_
                          unfold f_X5_insert_J184 at h_
                          refine lv_iload_n hx_ hb_ dX5_insert_184 rfl (lv_at hl_ 2 rfl) ?_
                          refine lv_goto (tgt := 189) hx_ hb_ dX5_insert_185 (by decide) ?_
                          exact hJ189 _ _ _ ls h_ hP_ hD_ hS_ (lv_sub hl_ [0, 1, 2, 3, 4] rfl)
                        refine jx_if_ne (tgt := 184) hx_ hb_ h_ dX5_insert_176 (by decide) (fun h_ => ?_) (fun h_ => ?_)
                        · exact hJ184  _ _ ls h_ hP_ hD_ hS_ (lv_sub hl_ [0, 1, 2, 3, 4] rfl)
                        · refine lv_iload hx_ hb_ dX5_insert_179 (lv_at hl_ 6 rfl) ?_
                          refine jx_if_eq (tgt := 188) hx_ hb_ h_ dX5_insert_181 (by decide) (fun h_ => ?_) (fun h_ => ?_)
                          · refine lv_iconst (v := jI 0) hx_ hb_ dX5_insert_188 (by decide +kernel) ?_
                            exact hJ189 _ _ _ ls h_ hP_ hD_ hS_ (lv_sub hl_ [0, 1, 2, 3, 4] rfl)
                          · exact hJ184  _ _ ls h_ hP_ hD_ hS_ (lv_sub hl_ [0, 1, 2, 3, 4] rfl)
                      refine jx_if_eq (tgt := 158) hx_ hb_ h_ dX5_insert_151 (by decide) (fun h_ => ?_) (fun h_ => ?_)
                      · refine lv_iconst (v := jI 0) hx_ hb_ dX5_insert_158 (by decide +kernel) ?_
                        exact hJ159 _ _ _ ls h_ hP_ hD_ hS_ (lv_sub hl_ [1, 2, 3, 0, 4, 5, 6] rfl)
                      · refine lv_iload_n hx_ hb_ dX5_insert_154 rfl (lv_at hl_ 3 rfl) ?_
                        refine lv_goto (tgt := 159) hx_ hb_ dX5_insert_155 (by decide) ?_
                        exact hJ159 _ _ _ ls h_ hP_ hD_ hS_ (lv_sub hl_ [1, 2, 3, 0, 4, 5, 6] rfl)
                    refine jx_if_eq (tgt := 135) hx_ hb_ h_ dX5_insert_128 (by decide) (fun h_ => ?_) (fun h_ => ?_)
                    · refine lv_iconst (v := jI 0) hx_ hb_ dX5_insert_135 (by decide +kernel) ?_
                      exact hJ136 _ _ _ ls h_ hP_ hD_ hS_ (lv_sub hl_ [1, 2, 3, 5, 6, 0] rfl)
                    · refine lv_iconst (v := jI 1) hx_ hb_ dX5_insert_131 (by decide +kernel) ?_
                      refine lv_goto (tgt := 136) hx_ hb_ dX5_insert_132 (by decide) ?_
                      exact hJ136 _ _ _ ls h_ hP_ hD_ hS_ (lv_sub hl_ [1, 2, 3, 5, 6, 0] rfl)
                  have hJ122 : ∀  (H : Heap) (locs : List Loc) (ls : Array Slot), f_X5_insert_J122 fu x2 rc_m9 stf_m10 hsf_m11 v12 v13 v15 (f_X5_insert_L73 fu x1 x2 (f_X5_insert_X199 fu) n73) = some (rr, q_rc, q_stf, q_hsf) → va_P D vwCl [(wMo y a rc_m9 is_ pd pn ho eh mv at_ tk fs lt ea), (wAr y (a 6) 205 stf_m10), (wAr y (a 7) 205 kpf), (wAr y (a 8) 1230 hsf_m11), (wAr y (a 9) 410 slf)].flatten H → va_D A [(wMo y a rc_m9 is_ pd pn ho eh mv at_ tk fs lt ea), (wAr y (a 6) 205 stf_m10), (wAr y (a 7) 205 kpf), (wAr y (a 8) 1230 hsf_m11), (wAr y (a 9) 410 slf)].flatten → va_S A s.heap H locs → lv_has ls 7 [(0, .ref (a 0)), (1, .int (jI x1)), (2, .int (jI x2)), (3, .int (jI v12)), (4, .int (jI v13)), (5, .int (jI v15))] → W p l e R s m args below meth c H locs 0 0 Q (F0 m 122 ls []) := by
                    intro  H locs ls h_ hP_ hD_ hS_ hl_
                    unfold f_X5_insert_J122 at h_
                    refine lv_iconst (v := jI 0) hx_ hb_ dX5_insert_122 (by decide +kernel) ?_
                    exact hJ123 _ _ _ ls h_ hP_ hD_ hS_ (lv_sub hl_ [0, 1, 2, 3, 4, 5] rfl)
                  refine jx_if_ne (tgt := 122) hx_ hb_ h_ dX5_insert_104 (by decide) (fun h_ => ?_) (fun h_ => ?_)
                  · exact hJ122  _ _ ls h_ hP_ hD_ hS_ (lv_sub hl_ [1, 2, 3, 4, 5, 0] rfl)
                  · refine lv_aload_n hx_ hb_ dX5_insert_107 rfl (lv_at hl_ 1 rfl) ?_
                    refine lv_iload hx_ hb_ dX5_insert_108 (lv_at hl_ 5 rfl) ?_
                    refine lv_iconst (v := jI 2) hx_ hb_ dX5_insert_110 (by decide +kernel) ?_
                    obtain ⟨v24, hv24, h_⟩ := jb_i h_
                    refine jx_cvi (wr := []) (cw := [(wMo y a rc_m9 is_ pd pn ho eh mv at_ tk fs lt ea), (wAr y (a 6) 205 stf_m10), (wAr y (a 7) 205 kpf), (wAr y (a 8) 1230 hsf_m11), (wAr y (a 9) 410 slf)]) (cw1 := [(wMo y a rc_m9 is_ pd pn ho eh mv at_ tk fs lt ea), (wAr y (a 6) 205 stf_m10), (wAr y (a 7) 205 kpf), (wAr y (a 8) 1230 hsf_m11), (wAr y (a 9) 410 slf)]) (cs1 := [(wMo y a rc_m9 is_ pd pn ho eh mv at_ tk fs lt ea), (wAr y (a 6) 205 stf_m10), (wAr y (a 7) 205 kpf), (wAr y (a 8) 1230 hsf_m11), (wAr y (a 9) 410 slf)]) (As := [.int (jI v13), .int (jI 2)]) (rest := []) ⟨hx_, hb_, hml_, hown_, hts_⟩ hM_ hP_ hD_ hS_ hA_ (List.Perm.refl _) (List.Perm.refl _) (c_X5_part l D y z a rc_m9 is_ pd pn ho eh mv at_ tk fs lt ea stf_m10 kpf hsf_m11 slf v13 2 fu v24 hv24) 2 gX5_insert_X5_part rfl ⟨rfl, rfl⟩ (by decide +kernel) ⟨by rw [hR_]; exact Nat.le_of_ble_eq_true rfl, by rw [hR_]; exact Nat.le_of_ble_eq_true rfl⟩ 0 5 rfl rfl rfl rfl rfl hl_.1 (Nat.le_of_ble_eq_true rfl) dX5_insert_111 ⟨Nat.zero_le _, Nat.zero_le _⟩ (fun H locs hP_ hD_ hS_ => ?_)
                    refine lv_iload_n hx_ hb_ dX5_insert_114 rfl (lv_at hl_ 2 rfl) ?_
                    refine jx_icmp_lt (tgt := 122) hx_ hb_ h_ dX5_insert_115 (by decide) (fun h_ => ?_) (fun h_ => ?_)
                    · exact hJ122  _ _ ls h_ hP_ hD_ hS_ (lv_sub hl_ [1, 2, 3, 4, 5, 0] rfl)
                    · refine lv_iconst (v := jI 1) hx_ hb_ dX5_insert_118 (by decide +kernel) ?_
                      refine lv_goto (tgt := 123) hx_ hb_ dX5_insert_119 (by decide) ?_
                      exact hJ123 _ _ _ ls h_ hP_ hD_ hS_ (lv_sub hl_ [1, 2, 3, 4, 5, 0] rfl)
                refine jx_icmp_lt (tgt := 99) hx_ hb_ h_ dX5_insert_92 (by decide) (fun h_ => ?_) (fun h_ => ?_)
                · refine lv_iconst (v := jI 0) hx_ hb_ dX5_insert_99 (by decide +kernel) ?_
                  exact hJ100 _ _ _ ls h_ hP_ hD_ hS_ (lv_sub hl_ [0, 1, 2, 3, 4] rfl)
                · refine lv_iconst (v := jI 1) hx_ hb_ dX5_insert_95 (by decide +kernel) ?_
                  refine lv_goto (tgt := 100) hx_ hb_ dX5_insert_96 (by decide) ?_
                  exact hJ100 _ _ _ ls h_ hP_ hD_ hS_ (lv_sub hl_ [0, 1, 2, 3, 4] rfl)
          exact hL73 fu _ _ _ _ _ _ _ ls h_ hP_ hD_ hS_ (lv_sub hl_ [2, 3, 4, 1, 0] rfl)
        have hL22 : ∀ n22 : Nat, ∀ (v25 : Int) (H : Heap) (locs : List Loc) (ls : Array Slot), f_X5_insert_L22 fu rc stf hsf x1 x2 (f_X5_insert_X64 fu rc stf hsf x1 x2) n22 v25 = some (rr, q_rc, q_stf, q_hsf) → va_P D vwCl [(wMo y a rc is_ pd pn ho eh mv at_ tk fs lt ea), (wAr y (a 6) 205 stf), (wAr y (a 7) 205 kpf), (wAr y (a 8) 1230 hsf), (wAr y (a 9) 410 slf)].flatten H → va_D A [(wMo y a rc is_ pd pn ho eh mv at_ tk fs lt ea), (wAr y (a 6) 205 stf), (wAr y (a 7) 205 kpf), (wAr y (a 8) 1230 hsf), (wAr y (a 9) 410 slf)].flatten → va_S A s.heap H locs → lv_has ls 7 [(0, .ref (a 0)), (1, .int (jI x1)), (2, .int (jI x2)), (3, .int (jI v25))] → W p l e R s m args below meth c H locs 0 0 Q (F0 m 22 ls []) := by
          intro n22
          induction n22 with
          | zero => intro _ H locs ls h_; have h_ : (none : Option (Int × Int × (Int → Int) × (Int → Int))) = some (rr, q_rc, q_stf, q_hsf) := h_; cases h_
          | succ n22 ih22 =>
            intro v25 H locs ls h_ hP_ hD_ hS_ hl_
            replace h_ : f_X5_insert_L22_b fu rc stf hsf x1 x2 (f_X5_insert_X64 fu rc stf hsf x1 x2) (f_X5_insert_L22 fu rc stf hsf x1 x2 (f_X5_insert_X64 fu rc stf hsf x1 x2) n22) v25 = some (rr, q_rc, q_stf, q_hsf) := h_
            unfold f_X5_insert_L22_b at h_
            refine lv_iload_n hx_ hb_ dX5_insert_22 rfl (lv_at hl_ 3 rfl) ?_
            refine lv_aload_n hx_ hb_ dX5_insert_23 rfl (lv_at hl_ 0 rfl) ?_
            refine va_get (D := D) (ci := 5) (v := .ref (a 6)) (C := RX5) (T := TX5) (N := 16) hx_ hb_ hts_ hin_ hown_ hM_.1 hP_ 0 rfl rfl 0 (by decide) (hts_ (.fieldLink RX5 7 "MusicHolesModel" "state" "[I") (by decide +kernel)) (fun _ h9_ => h9_) rfl dX5_insert_24 ?_
            refine lv_iconst (v := jI 4) hx_ hb_ dX5_insert_27 (by decide +kernel) ?_
            refine jx_iald hx_ hb_ hM_ hP_ 6 0 rfl rfl rfl (Nat.le_of_ble_eq_true rfl) h_ dX5_insert_28 (fun h_ => ?_)
            refine jx_icmp_ge (tgt := 64) hx_ hb_ h_ dX5_insert_29 (by decide) (fun h_ => ?_) (fun h_ => ?_)
            · exact hX64  _ _ ls h_ hP_ hD_ hS_ (lv_sub hl_ [0, 1, 2] rfl)
            · refine lv_aload_n hx_ hb_ dX5_insert_32 rfl (lv_at hl_ 0 rfl) ?_
              refine lv_iload_n hx_ hb_ dX5_insert_33 rfl (lv_at hl_ 3 rfl) ?_
              refine lv_iconst (v := jI 2) hx_ hb_ dX5_insert_34 (by decide +kernel) ?_
              obtain ⟨v26, hv26, h_⟩ := jb_i h_
              refine jx_cvi (wr := []) (cw := [(wMo y a rc is_ pd pn ho eh mv at_ tk fs lt ea), (wAr y (a 6) 205 stf), (wAr y (a 7) 205 kpf), (wAr y (a 8) 1230 hsf), (wAr y (a 9) 410 slf)]) (cw1 := [(wMo y a rc is_ pd pn ho eh mv at_ tk fs lt ea), (wAr y (a 6) 205 stf), (wAr y (a 7) 205 kpf), (wAr y (a 8) 1230 hsf), (wAr y (a 9) 410 slf)]) (cs1 := [(wMo y a rc is_ pd pn ho eh mv at_ tk fs lt ea), (wAr y (a 6) 205 stf), (wAr y (a 7) 205 kpf), (wAr y (a 8) 1230 hsf), (wAr y (a 9) 410 slf)]) (As := [.int (jI v25), .int (jI 2)]) (rest := []) ⟨hx_, hb_, hml_, hown_, hts_⟩ hM_ hP_ hD_ hS_ hA_ (List.Perm.refl _) (List.Perm.refl _) (c_X5_part l D y z a rc is_ pd pn ho eh mv at_ tk fs lt ea stf kpf hsf slf v25 2 fu v26 hv26) 2 gX5_insert_X5_part rfl ⟨rfl, rfl⟩ (by decide +kernel) ⟨by rw [hR_]; exact Nat.le_of_ble_eq_true rfl, by rw [hR_]; exact Nat.le_of_ble_eq_true rfl⟩ 0 5 rfl rfl rfl rfl rfl hl_.1 (Nat.le_of_ble_eq_true rfl) dX5_insert_35 ⟨Nat.zero_le _, Nat.zero_le _⟩ (fun H locs hP_ hD_ hS_ => ?_)
              refine lv_iload_n hx_ hb_ dX5_insert_38 rfl (lv_at hl_ 1 rfl) ?_
              refine jx_icmp_lt (tgt := 58) hx_ hb_ h_ dX5_insert_39 (by decide) (fun h_ => ?_) (fun h_ => ?_)
              · refine lv_iinc (v := jI (v25 + 1)) (lv' := [(3, .int (jI (v25 + 1))), (0, .ref (a 0)), (1, .int (jI x1)), (2, .int (jI x2))]) hx_ hb_ dX5_insert_58 hl_ (k := 3) rfl (jI_add _ _) (by decide) rfl (fun ls hl_ => ?_)
                refine lv_goto (tgt := 22) hx_ hb_ dX5_insert_61 (by decide) ?_
                exact ih22 _ _ _ ls h_ hP_ hD_ hS_ (lv_sub hl_ [1, 2, 3, 0] rfl)
              · refine lv_aload_n hx_ hb_ dX5_insert_42 rfl (lv_at hl_ 0 rfl) ?_
                refine lv_iload_n hx_ hb_ dX5_insert_43 rfl (lv_at hl_ 3 rfl) ?_
                refine lv_iconst (v := jI 2) hx_ hb_ dX5_insert_44 (by decide +kernel) ?_
                obtain ⟨v27, hv27, h_⟩ := jb_i h_
                refine jx_cvi (wr := []) (cw := [(wMo y a rc is_ pd pn ho eh mv at_ tk fs lt ea), (wAr y (a 6) 205 stf), (wAr y (a 7) 205 kpf), (wAr y (a 8) 1230 hsf), (wAr y (a 9) 410 slf)]) (cw1 := [(wMo y a rc is_ pd pn ho eh mv at_ tk fs lt ea), (wAr y (a 6) 205 stf), (wAr y (a 7) 205 kpf), (wAr y (a 8) 1230 hsf), (wAr y (a 9) 410 slf)]) (cs1 := [(wMo y a rc is_ pd pn ho eh mv at_ tk fs lt ea), (wAr y (a 6) 205 stf), (wAr y (a 7) 205 kpf), (wAr y (a 8) 1230 hsf), (wAr y (a 9) 410 slf)]) (As := [.int (jI v25), .int (jI 2)]) (rest := []) ⟨hx_, hb_, hml_, hown_, hts_⟩ hM_ hP_ hD_ hS_ hA_ (List.Perm.refl _) (List.Perm.refl _) (c_X5_part l D y z a rc is_ pd pn ho eh mv at_ tk fs lt ea stf kpf hsf slf v25 2 fu v27 hv27) 2 gX5_insert_X5_part rfl ⟨rfl, rfl⟩ (by decide +kernel) ⟨by rw [hR_]; exact Nat.le_of_ble_eq_true rfl, by rw [hR_]; exact Nat.le_of_ble_eq_true rfl⟩ 0 5 rfl rfl rfl rfl rfl hl_.1 (Nat.le_of_ble_eq_true rfl) dX5_insert_45 ⟨Nat.zero_le _, Nat.zero_le _⟩ (fun H locs hP_ hD_ hS_ => ?_)
                refine lv_iload_n hx_ hb_ dX5_insert_48 rfl (lv_at hl_ 2 rfl) ?_
                refine jx_iadd hx_ hb_ dX5_insert_49 ?_
                refine lv_bipush (v := jI 100) hx_ hb_ dX5_insert_50 (by decide +kernel) ?_
                refine jx_icmp_lt (tgt := 58) hx_ hb_ h_ dX5_insert_52 (by decide) (fun h_ => ?_) (fun h_ => ?_)
                · refine lv_iinc (v := jI (v25 + 1)) (lv' := [(3, .int (jI (v25 + 1))), (0, .ref (a 0)), (1, .int (jI x1)), (2, .int (jI x2))]) hx_ hb_ dX5_insert_58 hl_ (k := 3) rfl (jI_add _ _) (by decide) rfl (fun ls hl_ => ?_)
                  refine lv_goto (tgt := 22) hx_ hb_ dX5_insert_61 (by decide) ?_
                  exact ih22 _ _ _ ls h_ hP_ hD_ hS_ (lv_sub hl_ [1, 2, 3, 0] rfl)
                · refine lv_bipush (v := jI (-5)) hx_ hb_ dX5_insert_55 (by decide +kernel) ?_
                  exact hE_ _ _ _ _ _ _ _ _ h_ dX5_insert_57 hP_ hD_ hS_
        exact hL22 fu _ _ _ ls h_ hP_ hD_ hS_ (lv_sub hl_ [1, 2, 3, 0] rfl)
      · refine lv_bipush (v := jI (-2)) hx_ hb_ dX5_insert_17 (by decide +kernel) ?_
        exact hE_ _ _ _ _ _ _ _ _ h_ dX5_insert_19 hP_ hD_ hS_
  exact key_ _ (fun v9 rc9 stf9 hsf9 H locs pc ls h9_ hdg_ hP_ hD_ hS_ => by cases h9_; exact jend_i hx_ hb_ hr_ hlocks_ hP_ hD_ hS_ hdg_)
def rm_X5_firstBy : Room := { frames := 0, cells := 0, slots := 0, locals := 0 }
set_option maxRecDepth 100000 in
set_option maxHeartbeats 8000000 in
theorem c_X5_firstBy (l : Launch) (D : va_G) (y : Nat → ClassId) (z : Nat → Nat)   (x0 : Int) (x1 : Int) (x2 : Int) (fu : Nat) (rr : Int) (h_ : f_X5_firstBy fu x0 x1 x2 = some rr) : jCI l D y z yX5_firstBy wsX5_firstBy rm_X5_firstBy [.int (jI x0), .int (jI x1), .int (jI x2)] [] [] rr := by
  intro sz
  refine jmet (Qc := (fun A => va_Qi (fun v (_ : Unit) => v = jI rr) (jB D A []) A)) (cc := cX5_firstBy) (maxL := 3) (ret := (some .int)) (own := RX5) (by decide) rfl (Nat.le_of_ble_eq_true rfl) rfl (fun p e s m R args below meth c A ls hR_ hargs_ hx_ hb_ hr_ hlocks_ hml_ hown_ hts_ hname_ hsz_ hP_ hD_ hA_ hM_ hl_ => ?_)
  have key_ : ∀ Q : State → Prop, (∀ (v9 : Int) (H : Heap) (locs : List Loc) (pc : Nat) (ls : Array Slot), some v9 = some rr → decode cX5_firstBy pc = .ok (.ireturn, 1) → va_P D vwCl [].flatten H → va_D A [].flatten → va_S A s.heap H locs → W p l e R s m args below meth c H locs 0 0 Q (F0 m pc ls [.int (jI v9)])) → W p l e R s m args below meth c s.heap [] 0 0 Q (F0 m 0 ls []) := by
    intro Q hE_
    have hS_ : va_S A s.heap s.heap [] := va_S.rf
    have hl_ : lv_has ls 3 [(0, .int (jI x0)), (1, .int (jI x1)), (2, .int (jI x2))] := hl_
    unfold f_X5_firstBy at h_
    refine lv_iload_n hx_ hb_ dX5_firstBy_0 rfl (lv_at hl_ 0 rfl) ?_
    refine lv_iload_n hx_ hb_ dX5_firstBy_1 rfl (lv_at hl_ 1 rfl) ?_
    refine jx_icmp_ge (tgt := 9) hx_ hb_ h_ dX5_firstBy_2 (by decide) (fun h_ => ?_) (fun h_ => ?_)
    · refine lv_iload_n hx_ hb_ dX5_firstBy_9 rfl (lv_at hl_ 0 rfl) ?_
      refine lv_iload_n hx_ hb_ dX5_firstBy_10 rfl (lv_at hl_ 1 rfl) ?_
      refine lv_iload_n hx_ hb_ dX5_firstBy_11 rfl (lv_at hl_ 2 rfl) ?_
      refine jx_iadd hx_ hb_ dX5_firstBy_12 ?_
      refine jx_icmp_ge (tgt := 20) hx_ hb_ h_ dX5_firstBy_13 (by decide) (fun h_ => ?_) (fun h_ => ?_)
      · refine lv_iload_n hx_ hb_ dX5_firstBy_20 rfl (lv_at hl_ 0 rfl) ?_
        refine lv_iload_n hx_ hb_ dX5_firstBy_21 rfl (lv_at hl_ 2 rfl) ?_
        refine jx_isub hx_ hb_ dX5_firstBy_22 ?_
        exact hE_ _ _ _ _ _ h_ dX5_firstBy_23 hP_ hD_ hS_
      · refine lv_iload_n hx_ hb_ dX5_firstBy_16 rfl (lv_at hl_ 1 rfl) ?_
        refine lv_goto (tgt := 23) hx_ hb_ dX5_firstBy_17 (by decide) ?_
        exact hE_ _ _ _ _ _ h_ dX5_firstBy_23 hP_ hD_ hS_
    · refine lv_iload_n hx_ hb_ dX5_firstBy_5 rfl (lv_at hl_ 0 rfl) ?_
      refine lv_goto (tgt := 23) hx_ hb_ dX5_firstBy_6 (by decide) ?_
      exact hE_ _ _ _ _ _ h_ dX5_firstBy_23 hP_ hD_ hS_
  exact key_ _ (fun v9 H locs pc ls h9_ hdg_ hP_ hD_ hS_ => by cases h9_; exact jend_i hx_ hb_ hr_ hlocks_ hP_ hD_ hS_ hdg_)
def rm_X5_lastBy : Room := { frames := 0, cells := 0, slots := 0, locals := 0 }
set_option maxRecDepth 100000 in
set_option maxHeartbeats 8000000 in
theorem c_X5_lastBy (l : Launch) (D : va_G) (y : Nat → ClassId) (z : Nat → Nat)   (x0 : Int) (x1 : Int) (x2 : Int) (fu : Nat) (rr : Int) (h_ : f_X5_lastBy fu x0 x1 x2 = some rr) : jCI l D y z yX5_lastBy wsX5_lastBy rm_X5_lastBy [.int (jI x0), .int (jI x1), .int (jI x2)] [] [] rr := by
  intro sz
  refine jmet (Qc := (fun A => va_Qi (fun v (_ : Unit) => v = jI rr) (jB D A []) A)) (cc := cX5_lastBy) (maxL := 3) (ret := (some .int)) (own := RX5) (by decide) rfl (Nat.le_of_ble_eq_true rfl) rfl (fun p e s m R args below meth c A ls hR_ hargs_ hx_ hb_ hr_ hlocks_ hml_ hown_ hts_ hname_ hsz_ hP_ hD_ hA_ hM_ hl_ => ?_)
  have key_ : ∀ Q : State → Prop, (∀ (v9 : Int) (H : Heap) (locs : List Loc) (pc : Nat) (ls : Array Slot), some v9 = some rr → decode cX5_lastBy pc = .ok (.ireturn, 1) → va_P D vwCl [].flatten H → va_D A [].flatten → va_S A s.heap H locs → W p l e R s m args below meth c H locs 0 0 Q (F0 m pc ls [.int (jI v9)])) → W p l e R s m args below meth c s.heap [] 0 0 Q (F0 m 0 ls []) := by
    intro Q hE_
    have hS_ : va_S A s.heap s.heap [] := va_S.rf
    have hl_ : lv_has ls 3 [(0, .int (jI x0)), (1, .int (jI x1)), (2, .int (jI x2))] := hl_
    unfold f_X5_lastBy at h_
    refine lv_iload_n hx_ hb_ dX5_lastBy_0 rfl (lv_at hl_ 0 rfl) ?_
    refine lv_iload_n hx_ hb_ dX5_lastBy_1 rfl (lv_at hl_ 1 rfl) ?_
    refine jx_icmp_ge (tgt := 9) hx_ hb_ h_ dX5_lastBy_2 (by decide) (fun h_ => ?_) (fun h_ => ?_)
    · refine lv_iload_n hx_ hb_ dX5_lastBy_9 rfl (lv_at hl_ 0 rfl) ?_
      refine lv_iload_n hx_ hb_ dX5_lastBy_10 rfl (lv_at hl_ 1 rfl) ?_
      refine lv_iload_n hx_ hb_ dX5_lastBy_11 rfl (lv_at hl_ 2 rfl) ?_
      refine jx_iadd hx_ hb_ dX5_lastBy_12 ?_
      refine jx_icmp_ge (tgt := 22) hx_ hb_ h_ dX5_lastBy_13 (by decide) (fun h_ => ?_) (fun h_ => ?_)
      · refine lv_iload_n hx_ hb_ dX5_lastBy_22 rfl (lv_at hl_ 0 rfl) ?_
        refine lv_iload_n hx_ hb_ dX5_lastBy_23 rfl (lv_at hl_ 2 rfl) ?_
        refine jx_isub hx_ hb_ dX5_lastBy_24 ?_
        exact hE_ _ _ _ _ _ h_ dX5_lastBy_25 hP_ hD_ hS_
      · refine lv_iload_n hx_ hb_ dX5_lastBy_16 rfl (lv_at hl_ 1 rfl) ?_
        refine lv_iconst (v := jI 1) hx_ hb_ dX5_lastBy_17 (by decide +kernel) ?_
        refine jx_isub hx_ hb_ dX5_lastBy_18 ?_
        refine lv_goto (tgt := 25) hx_ hb_ dX5_lastBy_19 (by decide) ?_
        exact hE_ _ _ _ _ _ h_ dX5_lastBy_25 hP_ hD_ hS_
    · refine lv_iload_n hx_ hb_ dX5_lastBy_5 rfl (lv_at hl_ 0 rfl) ?_
      refine lv_goto (tgt := 25) hx_ hb_ dX5_lastBy_6 (by decide) ?_
      exact hE_ _ _ _ _ _ h_ dX5_lastBy_25 hP_ hD_ hS_
  exact key_ _ (fun v9 H locs pc ls h9_ hdg_ hP_ hD_ hS_ => by cases h9_; exact jend_i hx_ hb_ hr_ hlocks_ hP_ hD_ hS_ hdg_)
def rm_X5_cut : Room := { frames := 4, cells := 0, slots := 0, locals := 95 }
set_option maxRecDepth 100000 in
set_option maxHeartbeats 8000000 in
theorem c_X5_cut (l : Launch) (D : va_G) (y : Nat → ClassId) (z : Nat → Nat) (a : Nat → Nat) (rc : Int) (is_ : Int → Int) (pd : Int → Int) (pn : Int) (ho : Int → Int) (eh : Int → Int) (mv : Int → Int) (at_ : Int) (tk : Int) (fs : Int) (lt : Int) (ea : Int) (stf : Int → Int) (kpf : Int → Int) (hsf : Int → Int) (slf : Int → Int) (x1 : Int) (x2 : Int) (fu : Nat) (rr : Int) (q_rc : Int) (q_mv : Int → Int) (q_stf : Int → Int) (q_hsf : Int → Int) (h_ : f_X5_cut fu rc mv stf hsf x1 x2 = some (rr, q_rc, q_mv, q_stf, q_hsf)) : jCI l D y z yX5_cut wsX5_cut rm_X5_cut [.ref (a 0), .int (jI x1), .int (jI x2)] [(wMo y a rc is_ pd pn ho eh mv at_ tk fs lt ea), (wAr y (a 6) 205 stf), (wAr y (a 7) 205 kpf), (wAr y (a 8) 1230 hsf), (wAr y (a 9) 410 slf)] [(wMo y a q_rc is_ pd pn ho eh q_mv at_ tk fs lt ea), (wAr y (a 6) 205 q_stf), (wAr y (a 7) 205 kpf), (wAr y (a 8) 1230 q_hsf), (wAr y (a 9) 410 slf)] rr := by
  intro sz
  refine jmet (Qc := (fun A => va_Qi (fun v (_ : Unit) => v = jI rr) (jB D A [(wMo y a q_rc is_ pd pn ho eh q_mv at_ tk fs lt ea), (wAr y (a 6) 205 q_stf), (wAr y (a 7) 205 kpf), (wAr y (a 8) 1230 q_hsf), (wAr y (a 9) 410 slf)]) A)) (cc := cX5_cut) (maxL := 5) (ret := (some .int)) (own := RX5) (by decide) rfl (Nat.le_of_ble_eq_true rfl) rfl (fun p e s m R args below meth c A ls hR_ hargs_ hx_ hb_ hr_ hlocks_ hml_ hown_ hts_ hname_ hsz_ hP_ hD_ hA_ hM_ hl_ => ?_)
  have key_ : ∀ Q : State → Prop, (∀ (v9 : Int) (rc9 : Int) (mv9 : Int → Int) (stf9 : Int → Int) (hsf9 : Int → Int) (H : Heap) (locs : List Loc) (pc : Nat) (ls : Array Slot), some (v9, rc9, mv9, stf9, hsf9) = some (rr, q_rc, q_mv, q_stf, q_hsf) → decode cX5_cut pc = .ok (.ireturn, 1) → va_P D vwCl [(wMo y a rc9 is_ pd pn ho eh mv9 at_ tk fs lt ea), (wAr y (a 6) 205 stf9), (wAr y (a 7) 205 kpf), (wAr y (a 8) 1230 hsf9), (wAr y (a 9) 410 slf)].flatten H → va_D A [(wMo y a rc9 is_ pd pn ho eh mv9 at_ tk fs lt ea), (wAr y (a 6) 205 stf9), (wAr y (a 7) 205 kpf), (wAr y (a 8) 1230 hsf9), (wAr y (a 9) 410 slf)].flatten → va_S A s.heap H locs → W p l e R s m args below meth c H locs 0 0 Q (F0 m pc ls [.int (jI v9)])) → W p l e R s m args below meth c s.heap [] 0 0 Q (F0 m 0 ls []) := by
    intro Q hE_
    have hS_ : va_S A s.heap s.heap [] := va_S.rf
    have hl_ : lv_has ls 5 [(0, .ref (a 0)), (1, .int (jI x1)), (2, .int (jI x2))] := hl_
    have hin_ : ∀ w ∈ u_ws RX5 TX5 16, w ∈ wsX5_cut := by decide +kernel
    unfold f_X5_cut at h_
    refine lv_iload_n hx_ hb_ dX5_cut_0 rfl (lv_at hl_ 1 rfl) ?_
    obtain ⟨v1, hv1, h_⟩ := jb_i h_
    refine jx_csi (b := 0) (C := "") (wr := [(wMo y a rc is_ pd pn ho eh mv at_ tk fs lt ea), (wAr y (a 6) 205 stf), (wAr y (a 7) 205 kpf), (wAr y (a 8) 1230 hsf), (wAr y (a 9) 410 slf)]) (cw := []) (cw1 := []) (cs1 := [(wMo y a rc is_ pd pn ho eh mv at_ tk fs lt ea), (wAr y (a 6) 205 stf), (wAr y (a 7) 205 kpf), (wAr y (a 8) 1230 hsf), (wAr y (a 9) 410 slf)]) (As := [.int (jI x1)]) (rest := []) ⟨hx_, hb_, hml_, hown_, hts_⟩ hM_ hP_ hD_ hS_ hA_ (List.Perm.of_eq (List.append_nil _).symm) (List.Perm.of_eq (List.append_nil _)) (c_X5_isStep l D y z x1 fu v1 hv1) 1 (va_cwS 1 hts_ gX5_cut_X5_isStep rfl rfl rfl (by decide +kernel) ⟨by rw [hR_]; exact Nat.le_of_ble_eq_true rfl, by rw [hR_]; exact Nat.le_of_ble_eq_true rfl⟩) rfl ⟨rfl, rfl⟩ ⟨by rw [hR_]; exact Nat.le_of_ble_eq_true rfl, by rw [hR_]; exact Nat.le_of_ble_eq_true rfl⟩ rfl rfl hl_.1 (Nat.le_of_ble_eq_true rfl) dX5_cut_1 ⟨Nat.zero_le _, Nat.zero_le _⟩ (fun H locs hP_ hD_ hS_ => ?_)
    refine jx_if_eq (tgt := 19) hx_ hb_ h_ dX5_cut_4 (by decide) (fun h_ => ?_) (fun h_ => ?_)
    · refine lv_bipush (v := jI (-2)) hx_ hb_ dX5_cut_19 (by decide +kernel) ?_
      exact hE_ _ _ _ _ _ _ _ _ _ h_ dX5_cut_21 hP_ hD_ hS_
    · refine lv_iload_n hx_ hb_ dX5_cut_7 rfl (lv_at hl_ 2 rfl) ?_
      refine lv_iconst (v := jI 1) hx_ hb_ dX5_cut_8 (by decide +kernel) ?_
      refine lv_bipush (v := jI 100) hx_ hb_ dX5_cut_9 (by decide +kernel) ?_
      refine lv_iload_n hx_ hb_ dX5_cut_11 rfl (lv_at hl_ 1 rfl) ?_
      refine jx_isub hx_ hb_ dX5_cut_12 ?_
      obtain ⟨v2, hv2, h_⟩ := jb_i h_
      refine jx_csi (b := 0) (C := "") (wr := [(wMo y a rc is_ pd pn ho eh mv at_ tk fs lt ea), (wAr y (a 6) 205 stf), (wAr y (a 7) 205 kpf), (wAr y (a 8) 1230 hsf), (wAr y (a 9) 410 slf)]) (cw := []) (cw1 := []) (cs1 := [(wMo y a rc is_ pd pn ho eh mv at_ tk fs lt ea), (wAr y (a 6) 205 stf), (wAr y (a 7) 205 kpf), (wAr y (a 8) 1230 hsf), (wAr y (a 9) 410 slf)]) (As := [.int (jI x2), .int (jI 1), .int (jI (100 - x1))]) (rest := []) ⟨hx_, hb_, hml_, hown_, hts_⟩ hM_ hP_ hD_ hS_ hA_ (List.Perm.of_eq (List.append_nil _).symm) (List.Perm.of_eq (List.append_nil _)) (c_X5_within l D y z x2 1 (100 - x1) fu v2 hv2) 3 (va_cwS 3 hts_ gX5_cut_X5_within rfl rfl rfl (by decide +kernel) ⟨by rw [hR_]; exact Nat.le_of_ble_eq_true rfl, by rw [hR_]; exact Nat.le_of_ble_eq_true rfl⟩) rfl ⟨rfl, rfl⟩ ⟨by rw [hR_]; exact Nat.le_of_ble_eq_true rfl, by rw [hR_]; exact Nat.le_of_ble_eq_true rfl⟩ rfl rfl hl_.1 (Nat.le_of_ble_eq_true rfl) dX5_cut_13 ⟨Nat.zero_le _, Nat.zero_le _⟩ (fun H locs hP_ hD_ hS_ => ?_)
      refine jx_if_ne (tgt := 22) hx_ hb_ h_ dX5_cut_16 (by decide) (fun h_ => ?_) (fun h_ => ?_)
      · refine lv_aload_n hx_ hb_ dX5_cut_22 rfl (lv_at hl_ 0 rfl) ?_
        obtain ⟨rc_m3, hsf_m4, hrc_m3, h_⟩ := jb2_i h_
        refine jx_cvv (rv := 0) (wr := []) (cw := [(wMo y a rc is_ pd pn ho eh mv at_ tk fs lt ea), (wAr y (a 6) 205 stf), (wAr y (a 7) 205 kpf), (wAr y (a 8) 1230 hsf), (wAr y (a 9) 410 slf)]) (cw1 := [(wMo y a rc_m3 is_ pd pn ho eh mv at_ tk fs lt ea), (wAr y (a 6) 205 stf), (wAr y (a 7) 205 kpf), (wAr y (a 8) 1230 hsf_m4), (wAr y (a 9) 410 slf)]) (cs1 := [(wMo y a rc_m3 is_ pd pn ho eh mv at_ tk fs lt ea), (wAr y (a 6) 205 stf), (wAr y (a 7) 205 kpf), (wAr y (a 8) 1230 hsf_m4), (wAr y (a 9) 410 slf)]) (As := []) (rest := []) ⟨hx_, hb_, hml_, hown_, hts_⟩ hM_ hP_ hD_ hS_ hA_ (List.Perm.refl _) (List.Perm.refl _) (c_X5_record l D y z a rc is_ pd pn ho eh mv at_ tk fs lt ea stf kpf hsf slf fu rc_m3 hsf_m4 hrc_m3) 0 gX5_cut_X5_record rfl ⟨rfl, rfl⟩ (by decide +kernel) ⟨by rw [hR_]; exact Nat.le_of_ble_eq_true rfl, by rw [hR_]; exact Nat.le_of_ble_eq_true rfl⟩ 0 5 rfl rfl rfl rfl rfl hl_.1 (Nat.le_of_ble_eq_true rfl) dX5_cut_23 ⟨Nat.zero_le _, Nat.zero_le _⟩ (fun H locs hP_ hD_ hS_ => ?_)
        refine lv_iconst (v := jI 0) hx_ hb_ dX5_cut_26 (by decide +kernel) ?_
        refine lv_istore_n (lv' := [(3, .int (jI 0)), (0, .ref (a 0)), (1, .int (jI x1)), (2, .int (jI x2))]) hx_ hb_ dX5_cut_27 rfl hl_ (by decide) rfl (fun ls hl_ => ?_)
        refine lv_aload_n hx_ hb_ dX5_cut_28 rfl (lv_at hl_ 1 rfl) ?_
        refine va_get (D := D) (ci := 5) (v := .ref (a 6)) (C := RX5) (T := TX5) (N := 16) hx_ hb_ hts_ hin_ hown_ hM_.1 hP_ 0 rfl rfl 0 (by decide) (hts_ (.fieldLink RX5 7 "MusicHolesModel" "state" "[I") (by decide +kernel)) (fun _ h9_ => h9_) rfl dX5_cut_29 ?_
        refine lv_iconst (v := jI 4) hx_ hb_ dX5_cut_32 (by decide +kernel) ?_
        refine jx_iald hx_ hb_ hM_ hP_ 6 0 rfl rfl rfl (Nat.le_of_ble_eq_true rfl) h_ dX5_cut_33 (fun h_ => ?_)
        refine lv_iconst (v := jI 1) hx_ hb_ dX5_cut_34 (by decide +kernel) ?_
        refine jx_isub hx_ hb_ dX5_cut_35 ?_
        refine lv_istore (lv' := [(4, .int (jI ((stf 4) - 1))), (3, .int (jI 0)), (0, .ref (a 0)), (1, .int (jI x1)), (2, .int (jI x2))]) hx_ hb_ dX5_cut_36 hl_ (by decide) rfl (fun ls hl_ => ?_)
        have hX113 : ∀ (rc_m5 : Int) (mv_m6 : Int → Int) (stf_m7 : Int → Int) (hsf_m8 : Int → Int) (v9 : Int) (H : Heap) (locs : List Loc) (ls : Array Slot), f_X5_cut_X113 fu rc_m5 mv_m6 stf_m7 hsf_m8 v9 = some (rr, q_rc, q_mv, q_stf, q_hsf) → va_P D vwCl [(wMo y a rc_m5 is_ pd pn ho eh mv_m6 at_ tk fs lt ea), (wAr y (a 6) 205 stf_m7), (wAr y (a 7) 205 kpf), (wAr y (a 8) 1230 hsf_m8), (wAr y (a 9) 410 slf)].flatten H → va_D A [(wMo y a rc_m5 is_ pd pn ho eh mv_m6 at_ tk fs lt ea), (wAr y (a 6) 205 stf_m7), (wAr y (a 7) 205 kpf), (wAr y (a 8) 1230 hsf_m8), (wAr y (a 9) 410 slf)].flatten → va_S A s.heap H locs → lv_has ls 5 [(0, .ref (a 0)), (3, .int (jI v9))] → W p l e R s m args below meth c H locs 0 0 Q (F0 m 113 ls []) := by
          intro rc_m5 mv_m6 stf_m7 hsf_m8 v9 H locs ls h_ hP_ hD_ hS_ hl_
          unfold f_X5_cut_X113 at h_
          refine lv_aload_n hx_ hb_ dX5_cut_113 rfl (lv_at hl_ 0 rfl) ?_
          obtain ⟨mv_m10, stf_m11, hmv_m10, h_⟩ := jb2_i h_
          refine jx_cvv (rv := 0) (wr := []) (cw := [(wMo y a rc_m5 is_ pd pn ho eh mv_m6 at_ tk fs lt ea), (wAr y (a 6) 205 stf_m7), (wAr y (a 7) 205 kpf), (wAr y (a 8) 1230 hsf_m8), (wAr y (a 9) 410 slf)]) (cw1 := [(wMo y a rc_m5 is_ pd pn ho eh mv_m10 at_ tk fs lt ea), (wAr y (a 6) 205 stf_m11), (wAr y (a 7) 205 kpf), (wAr y (a 8) 1230 hsf_m8), (wAr y (a 9) 410 slf)]) (cs1 := [(wMo y a rc_m5 is_ pd pn ho eh mv_m10 at_ tk fs lt ea), (wAr y (a 6) 205 stf_m11), (wAr y (a 7) 205 kpf), (wAr y (a 8) 1230 hsf_m8), (wAr y (a 9) 410 slf)]) (As := []) (rest := []) ⟨hx_, hb_, hml_, hown_, hts_⟩ hM_ hP_ hD_ hS_ hA_ (List.Perm.refl _) (List.Perm.refl _) (c_X5_putInOrder l D y z a rc_m5 is_ pd pn ho eh mv_m6 at_ tk fs lt ea stf_m7 kpf hsf_m8 slf fu mv_m10 stf_m11 hmv_m10) 0 gX5_cut_X5_putInOrder rfl ⟨rfl, rfl⟩ (by decide +kernel) ⟨by rw [hR_]; exact Nat.le_of_ble_eq_true rfl, by rw [hR_]; exact Nat.le_of_ble_eq_true rfl⟩ 0 5 rfl rfl rfl rfl rfl hl_.1 (Nat.le_of_ble_eq_true rfl) dX5_cut_114 ⟨Nat.zero_le _, Nat.zero_le _⟩ (fun H locs hP_ hD_ hS_ => ?_)
          refine lv_iload_n hx_ hb_ dX5_cut_117 rfl (lv_at hl_ 1 rfl) ?_
          exact hE_ _ _ _ _ _ _ _ _ _ h_ dX5_cut_118 hP_ hD_ hS_
        have hL38 : ∀ n38 : Nat, ∀ (rc_m12 : Int) (mv_m13 : Int → Int) (stf_m14 : Int → Int) (hsf_m15 : Int → Int) (v16 : Int) (v17 : Int) (H : Heap) (locs : List Loc) (ls : Array Slot), f_X5_cut_L38 fu x1 x2 (f_X5_cut_X113 fu) n38 rc_m12 mv_m13 stf_m14 hsf_m15 v16 v17 = some (rr, q_rc, q_mv, q_stf, q_hsf) → va_P D vwCl [(wMo y a rc_m12 is_ pd pn ho eh mv_m13 at_ tk fs lt ea), (wAr y (a 6) 205 stf_m14), (wAr y (a 7) 205 kpf), (wAr y (a 8) 1230 hsf_m15), (wAr y (a 9) 410 slf)].flatten H → va_D A [(wMo y a rc_m12 is_ pd pn ho eh mv_m13 at_ tk fs lt ea), (wAr y (a 6) 205 stf_m14), (wAr y (a 7) 205 kpf), (wAr y (a 8) 1230 hsf_m15), (wAr y (a 9) 410 slf)].flatten → va_S A s.heap H locs → lv_has ls 5 [(0, .ref (a 0)), (1, .int (jI x1)), (2, .int (jI x2)), (3, .int (jI v16)), (4, .int (jI v17))] → W p l e R s m args below meth c H locs 0 0 Q (F0 m 38 ls []) := by
          intro n38
          induction n38 with
          | zero => intro _ _ _ _ _ _ H locs ls h_; have h_ : (none : Option (Int × Int × (Int → Int) × (Int → Int) × (Int → Int))) = some (rr, q_rc, q_mv, q_stf, q_hsf) := h_; cases h_
          | succ n38 ih38 =>
            intro rc_m12 mv_m13 stf_m14 hsf_m15 v16 v17 H locs ls h_ hP_ hD_ hS_ hl_
            replace h_ : f_X5_cut_L38_b fu x1 x2 (f_X5_cut_X113 fu) (f_X5_cut_L38 fu x1 x2 (f_X5_cut_X113 fu) n38) rc_m12 mv_m13 stf_m14 hsf_m15 v16 v17 = some (rr, q_rc, q_mv, q_stf, q_hsf) := h_
            unfold f_X5_cut_L38_b at h_
            refine lv_iload hx_ hb_ dX5_cut_38 (lv_at hl_ 4 rfl) ?_
            refine jx_if_lt (tgt := 113) hx_ hb_ h_ dX5_cut_40 (by decide) (fun h_ => ?_) (fun h_ => ?_)
            · exact hX113 _ _ _ _ _ _ _ ls h_ hP_ hD_ hS_ (lv_sub hl_ [0, 3] rfl)
            · refine lv_aload_n hx_ hb_ dX5_cut_43 rfl (lv_at hl_ 0 rfl) ?_
              refine lv_iload hx_ hb_ dX5_cut_44 (lv_at hl_ 4 rfl) ?_
              refine lv_iconst (v := jI 1) hx_ hb_ dX5_cut_46 (by decide +kernel) ?_
              refine lv_aload_n hx_ hb_ dX5_cut_47 rfl (lv_at hl_ 0 rfl) ?_
              refine lv_iload hx_ hb_ dX5_cut_48 (lv_at hl_ 4 rfl) ?_
              refine lv_iconst (v := jI 1) hx_ hb_ dX5_cut_50 (by decide +kernel) ?_
              obtain ⟨v18, hv18, h_⟩ := jb_i h_
              refine jx_cvi (wr := []) (cw := [(wMo y a rc_m12 is_ pd pn ho eh mv_m13 at_ tk fs lt ea), (wAr y (a 6) 205 stf_m14), (wAr y (a 7) 205 kpf), (wAr y (a 8) 1230 hsf_m15), (wAr y (a 9) 410 slf)]) (cw1 := [(wMo y a rc_m12 is_ pd pn ho eh mv_m13 at_ tk fs lt ea), (wAr y (a 6) 205 stf_m14), (wAr y (a 7) 205 kpf), (wAr y (a 8) 1230 hsf_m15), (wAr y (a 9) 410 slf)]) (cs1 := [(wMo y a rc_m12 is_ pd pn ho eh mv_m13 at_ tk fs lt ea), (wAr y (a 6) 205 stf_m14), (wAr y (a 7) 205 kpf), (wAr y (a 8) 1230 hsf_m15), (wAr y (a 9) 410 slf)]) (As := [.int (jI v17), .int (jI 1)]) (rest := [.int (jI 1), .int (jI v17), .ref (a 0)]) ⟨hx_, hb_, hml_, hown_, hts_⟩ hM_ hP_ hD_ hS_ hA_ (List.Perm.refl _) (List.Perm.refl _) (c_X5_part l D y z a rc_m12 is_ pd pn ho eh mv_m13 at_ tk fs lt ea stf_m14 kpf hsf_m15 slf v17 1 fu v18 hv18) 2 gX5_cut_X5_part rfl ⟨rfl, rfl⟩ (by decide +kernel) ⟨by rw [hR_]; exact Nat.le_of_ble_eq_true rfl, by rw [hR_]; exact Nat.le_of_ble_eq_true rfl⟩ 0 5 rfl rfl rfl rfl rfl hl_.1 (Nat.le_of_ble_eq_true rfl) dX5_cut_51 ⟨Nat.zero_le _, Nat.zero_le _⟩ (fun H locs hP_ hD_ hS_ => ?_)
              refine lv_iload_n hx_ hb_ dX5_cut_54 rfl (lv_at hl_ 1 rfl) ?_
              refine lv_iload_n hx_ hb_ dX5_cut_55 rfl (lv_at hl_ 2 rfl) ?_
              obtain ⟨v19, hv19, h_⟩ := jb_i h_
              refine jx_csi (b := 0) (C := "") (wr := [(wMo y a rc_m12 is_ pd pn ho eh mv_m13 at_ tk fs lt ea), (wAr y (a 6) 205 stf_m14), (wAr y (a 7) 205 kpf), (wAr y (a 8) 1230 hsf_m15), (wAr y (a 9) 410 slf)]) (cw := []) (cw1 := []) (cs1 := [(wMo y a rc_m12 is_ pd pn ho eh mv_m13 at_ tk fs lt ea), (wAr y (a 6) 205 stf_m14), (wAr y (a 7) 205 kpf), (wAr y (a 8) 1230 hsf_m15), (wAr y (a 9) 410 slf)]) (As := [.int (jI v18), .int (jI x1), .int (jI x2)]) (rest := [.int (jI 1), .int (jI v17), .ref (a 0)]) ⟨hx_, hb_, hml_, hown_, hts_⟩ hM_ hP_ hD_ hS_ hA_ (List.Perm.of_eq (List.append_nil _).symm) (List.Perm.of_eq (List.append_nil _)) (c_X5_firstBy l D y z v18 x1 x2 fu v19 hv19) 3 (va_cwS 3 hts_ gX5_cut_X5_firstBy rfl rfl rfl (by decide +kernel) ⟨by rw [hR_]; exact Nat.le_of_ble_eq_true rfl, by rw [hR_]; exact Nat.le_of_ble_eq_true rfl⟩) rfl ⟨rfl, rfl⟩ ⟨by rw [hR_]; exact Nat.le_of_ble_eq_true rfl, by rw [hR_]; exact Nat.le_of_ble_eq_true rfl⟩ rfl rfl hl_.1 (Nat.le_of_ble_eq_true rfl) dX5_cut_56 ⟨Nat.zero_le _, Nat.zero_le _⟩ (fun H locs hP_ hD_ hS_ => ?_)
              obtain ⟨stf_m20, hstf_m20, h_⟩ := jb_i h_
              refine jx_cvv (rv := 0) (wr := []) (cw := [(wMo y a rc_m12 is_ pd pn ho eh mv_m13 at_ tk fs lt ea), (wAr y (a 6) 205 stf_m14), (wAr y (a 7) 205 kpf), (wAr y (a 8) 1230 hsf_m15), (wAr y (a 9) 410 slf)]) (cw1 := [(wMo y a rc_m12 is_ pd pn ho eh mv_m13 at_ tk fs lt ea), (wAr y (a 6) 205 stf_m20), (wAr y (a 7) 205 kpf), (wAr y (a 8) 1230 hsf_m15), (wAr y (a 9) 410 slf)]) (cs1 := [(wMo y a rc_m12 is_ pd pn ho eh mv_m13 at_ tk fs lt ea), (wAr y (a 6) 205 stf_m20), (wAr y (a 7) 205 kpf), (wAr y (a 8) 1230 hsf_m15), (wAr y (a 9) 410 slf)]) (As := [.int (jI v17), .int (jI 1), .int (jI v19)]) (rest := []) ⟨hx_, hb_, hml_, hown_, hts_⟩ hM_ hP_ hD_ hS_ hA_ (List.Perm.refl _) (List.Perm.refl _) (c_X5_setPart l D y z a rc_m12 is_ pd pn ho eh mv_m13 at_ tk fs lt ea stf_m14 kpf hsf_m15 slf v17 1 v19 fu stf_m20 hstf_m20) 3 gX5_cut_X5_setPart rfl ⟨rfl, rfl⟩ (by decide +kernel) ⟨by rw [hR_]; exact Nat.le_of_ble_eq_true rfl, by rw [hR_]; exact Nat.le_of_ble_eq_true rfl⟩ 0 5 rfl rfl rfl rfl rfl hl_.1 (Nat.le_of_ble_eq_true rfl) dX5_cut_59 ⟨Nat.zero_le _, Nat.zero_le _⟩ (fun H locs hP_ hD_ hS_ => ?_)
              refine lv_aload_n hx_ hb_ dX5_cut_62 rfl (lv_at hl_ 0 rfl) ?_
              refine lv_iload hx_ hb_ dX5_cut_63 (lv_at hl_ 4 rfl) ?_
              refine lv_iconst (v := jI 2) hx_ hb_ dX5_cut_65 (by decide +kernel) ?_
              refine lv_aload_n hx_ hb_ dX5_cut_66 rfl (lv_at hl_ 0 rfl) ?_
              refine lv_iload hx_ hb_ dX5_cut_67 (lv_at hl_ 4 rfl) ?_
              refine lv_iconst (v := jI 2) hx_ hb_ dX5_cut_69 (by decide +kernel) ?_
              obtain ⟨v21, hv21, h_⟩ := jb_i h_
              refine jx_cvi (wr := []) (cw := [(wMo y a rc_m12 is_ pd pn ho eh mv_m13 at_ tk fs lt ea), (wAr y (a 6) 205 stf_m20), (wAr y (a 7) 205 kpf), (wAr y (a 8) 1230 hsf_m15), (wAr y (a 9) 410 slf)]) (cw1 := [(wMo y a rc_m12 is_ pd pn ho eh mv_m13 at_ tk fs lt ea), (wAr y (a 6) 205 stf_m20), (wAr y (a 7) 205 kpf), (wAr y (a 8) 1230 hsf_m15), (wAr y (a 9) 410 slf)]) (cs1 := [(wMo y a rc_m12 is_ pd pn ho eh mv_m13 at_ tk fs lt ea), (wAr y (a 6) 205 stf_m20), (wAr y (a 7) 205 kpf), (wAr y (a 8) 1230 hsf_m15), (wAr y (a 9) 410 slf)]) (As := [.int (jI v17), .int (jI 2)]) (rest := [.int (jI 2), .int (jI v17), .ref (a 0)]) ⟨hx_, hb_, hml_, hown_, hts_⟩ hM_ hP_ hD_ hS_ hA_ (List.Perm.refl _) (List.Perm.refl _) (c_X5_part l D y z a rc_m12 is_ pd pn ho eh mv_m13 at_ tk fs lt ea stf_m20 kpf hsf_m15 slf v17 2 fu v21 hv21) 2 gX5_cut_X5_part rfl ⟨rfl, rfl⟩ (by decide +kernel) ⟨by rw [hR_]; exact Nat.le_of_ble_eq_true rfl, by rw [hR_]; exact Nat.le_of_ble_eq_true rfl⟩ 0 5 rfl rfl rfl rfl rfl hl_.1 (Nat.le_of_ble_eq_true rfl) dX5_cut_70 ⟨Nat.zero_le _, Nat.zero_le _⟩ (fun H locs hP_ hD_ hS_ => ?_)
              refine lv_iload_n hx_ hb_ dX5_cut_73 rfl (lv_at hl_ 1 rfl) ?_
              refine lv_iload_n hx_ hb_ dX5_cut_74 rfl (lv_at hl_ 2 rfl) ?_
              obtain ⟨v22, hv22, h_⟩ := jb_i h_
              refine jx_csi (b := 0) (C := "") (wr := [(wMo y a rc_m12 is_ pd pn ho eh mv_m13 at_ tk fs lt ea), (wAr y (a 6) 205 stf_m20), (wAr y (a 7) 205 kpf), (wAr y (a 8) 1230 hsf_m15), (wAr y (a 9) 410 slf)]) (cw := []) (cw1 := []) (cs1 := [(wMo y a rc_m12 is_ pd pn ho eh mv_m13 at_ tk fs lt ea), (wAr y (a 6) 205 stf_m20), (wAr y (a 7) 205 kpf), (wAr y (a 8) 1230 hsf_m15), (wAr y (a 9) 410 slf)]) (As := [.int (jI v21), .int (jI x1), .int (jI x2)]) (rest := [.int (jI 2), .int (jI v17), .ref (a 0)]) ⟨hx_, hb_, hml_, hown_, hts_⟩ hM_ hP_ hD_ hS_ hA_ (List.Perm.of_eq (List.append_nil _).symm) (List.Perm.of_eq (List.append_nil _)) (c_X5_lastBy l D y z v21 x1 x2 fu v22 hv22) 3 (va_cwS 3 hts_ gX5_cut_X5_lastBy rfl rfl rfl (by decide +kernel) ⟨by rw [hR_]; exact Nat.le_of_ble_eq_true rfl, by rw [hR_]; exact Nat.le_of_ble_eq_true rfl⟩) rfl ⟨rfl, rfl⟩ ⟨by rw [hR_]; exact Nat.le_of_ble_eq_true rfl, by rw [hR_]; exact Nat.le_of_ble_eq_true rfl⟩ rfl rfl hl_.1 (Nat.le_of_ble_eq_true rfl) dX5_cut_75 ⟨Nat.zero_le _, Nat.zero_le _⟩ (fun H locs hP_ hD_ hS_ => ?_)
              obtain ⟨stf_m23, hstf_m23, h_⟩ := jb_i h_
              refine jx_cvv (rv := 0) (wr := []) (cw := [(wMo y a rc_m12 is_ pd pn ho eh mv_m13 at_ tk fs lt ea), (wAr y (a 6) 205 stf_m20), (wAr y (a 7) 205 kpf), (wAr y (a 8) 1230 hsf_m15), (wAr y (a 9) 410 slf)]) (cw1 := [(wMo y a rc_m12 is_ pd pn ho eh mv_m13 at_ tk fs lt ea), (wAr y (a 6) 205 stf_m23), (wAr y (a 7) 205 kpf), (wAr y (a 8) 1230 hsf_m15), (wAr y (a 9) 410 slf)]) (cs1 := [(wMo y a rc_m12 is_ pd pn ho eh mv_m13 at_ tk fs lt ea), (wAr y (a 6) 205 stf_m23), (wAr y (a 7) 205 kpf), (wAr y (a 8) 1230 hsf_m15), (wAr y (a 9) 410 slf)]) (As := [.int (jI v17), .int (jI 2), .int (jI v22)]) (rest := []) ⟨hx_, hb_, hml_, hown_, hts_⟩ hM_ hP_ hD_ hS_ hA_ (List.Perm.refl _) (List.Perm.refl _) (c_X5_setPart l D y z a rc_m12 is_ pd pn ho eh mv_m13 at_ tk fs lt ea stf_m20 kpf hsf_m15 slf v17 2 v22 fu stf_m23 hstf_m23) 3 gX5_cut_X5_setPart rfl ⟨rfl, rfl⟩ (by decide +kernel) ⟨by rw [hR_]; exact Nat.le_of_ble_eq_true rfl, by rw [hR_]; exact Nat.le_of_ble_eq_true rfl⟩ 0 5 rfl rfl rfl rfl rfl hl_.1 (Nat.le_of_ble_eq_true rfl) dX5_cut_78 ⟨Nat.zero_le _, Nat.zero_le _⟩ (fun H locs hP_ hD_ hS_ => ?_)
              refine lv_aload_n hx_ hb_ dX5_cut_81 rfl (lv_at hl_ 0 rfl) ?_
              refine lv_iload hx_ hb_ dX5_cut_82 (lv_at hl_ 4 rfl) ?_
              refine lv_iconst (v := jI 2) hx_ hb_ dX5_cut_84 (by decide +kernel) ?_
              obtain ⟨v24, hv24, h_⟩ := jb_i h_
              refine jx_cvi (wr := []) (cw := [(wMo y a rc_m12 is_ pd pn ho eh mv_m13 at_ tk fs lt ea), (wAr y (a 6) 205 stf_m23), (wAr y (a 7) 205 kpf), (wAr y (a 8) 1230 hsf_m15), (wAr y (a 9) 410 slf)]) (cw1 := [(wMo y a rc_m12 is_ pd pn ho eh mv_m13 at_ tk fs lt ea), (wAr y (a 6) 205 stf_m23), (wAr y (a 7) 205 kpf), (wAr y (a 8) 1230 hsf_m15), (wAr y (a 9) 410 slf)]) (cs1 := [(wMo y a rc_m12 is_ pd pn ho eh mv_m13 at_ tk fs lt ea), (wAr y (a 6) 205 stf_m23), (wAr y (a 7) 205 kpf), (wAr y (a 8) 1230 hsf_m15), (wAr y (a 9) 410 slf)]) (As := [.int (jI v17), .int (jI 2)]) (rest := []) ⟨hx_, hb_, hml_, hown_, hts_⟩ hM_ hP_ hD_ hS_ hA_ (List.Perm.refl _) (List.Perm.refl _) (c_X5_part l D y z a rc_m12 is_ pd pn ho eh mv_m13 at_ tk fs lt ea stf_m23 kpf hsf_m15 slf v17 2 fu v24 hv24) 2 gX5_cut_X5_part rfl ⟨rfl, rfl⟩ (by decide +kernel) ⟨by rw [hR_]; exact Nat.le_of_ble_eq_true rfl, by rw [hR_]; exact Nat.le_of_ble_eq_true rfl⟩ 0 5 rfl rfl rfl rfl rfl hl_.1 (Nat.le_of_ble_eq_true rfl) dX5_cut_85 ⟨Nat.zero_le _, Nat.zero_le _⟩ (fun H locs hP_ hD_ hS_ => ?_)
              refine lv_aload_n hx_ hb_ dX5_cut_88 rfl (lv_at hl_ 0 rfl) ?_
              refine lv_iload hx_ hb_ dX5_cut_89 (lv_at hl_ 4 rfl) ?_
              refine lv_iconst (v := jI 1) hx_ hb_ dX5_cut_91 (by decide +kernel) ?_
              obtain ⟨v25, hv25, h_⟩ := jb_i h_
              refine jx_cvi (wr := []) (cw := [(wMo y a rc_m12 is_ pd pn ho eh mv_m13 at_ tk fs lt ea), (wAr y (a 6) 205 stf_m23), (wAr y (a 7) 205 kpf), (wAr y (a 8) 1230 hsf_m15), (wAr y (a 9) 410 slf)]) (cw1 := [(wMo y a rc_m12 is_ pd pn ho eh mv_m13 at_ tk fs lt ea), (wAr y (a 6) 205 stf_m23), (wAr y (a 7) 205 kpf), (wAr y (a 8) 1230 hsf_m15), (wAr y (a 9) 410 slf)]) (cs1 := [(wMo y a rc_m12 is_ pd pn ho eh mv_m13 at_ tk fs lt ea), (wAr y (a 6) 205 stf_m23), (wAr y (a 7) 205 kpf), (wAr y (a 8) 1230 hsf_m15), (wAr y (a 9) 410 slf)]) (As := [.int (jI v17), .int (jI 1)]) (rest := [.int (jI v24)]) ⟨hx_, hb_, hml_, hown_, hts_⟩ hM_ hP_ hD_ hS_ hA_ (List.Perm.refl _) (List.Perm.refl _) (c_X5_part l D y z a rc_m12 is_ pd pn ho eh mv_m13 at_ tk fs lt ea stf_m23 kpf hsf_m15 slf v17 1 fu v25 hv25) 2 gX5_cut_X5_part rfl ⟨rfl, rfl⟩ (by decide +kernel) ⟨by rw [hR_]; exact Nat.le_of_ble_eq_true rfl, by rw [hR_]; exact Nat.le_of_ble_eq_true rfl⟩ 0 5 rfl rfl rfl rfl rfl hl_.1 (Nat.le_of_ble_eq_true rfl) dX5_cut_92 ⟨Nat.zero_le _, Nat.zero_le _⟩ (fun H locs hP_ hD_ hS_ => ?_)
              refine jx_icmp_ge (tgt := 107) hx_ hb_ h_ dX5_cut_95 (by decide) (fun h_ => ?_) (fun h_ => ?_)
              · refine lv_iinc (v := jI (v17 + (-1))) (lv' := [(4, .int (jI (v17 + (-1)))), (0, .ref (a 0)), (1, .int (jI x1)), (2, .int (jI x2)), (3, .int (jI v16))]) hx_ hb_ dX5_cut_107 hl_ (k := 4) rfl (jI_add _ _) (by decide) rfl (fun ls hl_ => ?_)
                refine lv_goto (tgt := 38) hx_ hb_ dX5_cut_110 (by decide) ?_
                exact ih38 _ _ _ _ _ _ _ _ ls h_ hP_ hD_ hS_ (lv_sub hl_ [1, 2, 3, 4, 0] rfl)
              · refine lv_aload_n hx_ hb_ dX5_cut_98 rfl (lv_at hl_ 0 rfl) ?_
                refine lv_iload hx_ hb_ dX5_cut_99 (lv_at hl_ 4 rfl) ?_
                obtain ⟨stf_m26, hstf_m26, h_⟩ := jb_i h_
                refine jx_cvv (rv := 0) (wr := []) (cw := [(wMo y a rc_m12 is_ pd pn ho eh mv_m13 at_ tk fs lt ea), (wAr y (a 6) 205 stf_m23), (wAr y (a 7) 205 kpf), (wAr y (a 8) 1230 hsf_m15), (wAr y (a 9) 410 slf)]) (cw1 := [(wMo y a rc_m12 is_ pd pn ho eh mv_m13 at_ tk fs lt ea), (wAr y (a 6) 205 stf_m26), (wAr y (a 7) 205 kpf), (wAr y (a 8) 1230 hsf_m15), (wAr y (a 9) 410 slf)]) (cs1 := [(wMo y a rc_m12 is_ pd pn ho eh mv_m13 at_ tk fs lt ea), (wAr y (a 6) 205 stf_m26), (wAr y (a 7) 205 kpf), (wAr y (a 8) 1230 hsf_m15), (wAr y (a 9) 410 slf)]) (As := [.int (jI v17)]) (rest := []) ⟨hx_, hb_, hml_, hown_, hts_⟩ hM_ hP_ hD_ hS_ hA_ (List.Perm.refl _) (List.Perm.refl _) (c_X5_takeOut l D y z a rc_m12 is_ pd pn ho eh mv_m13 at_ tk fs lt ea stf_m23 kpf hsf_m15 slf v17 fu stf_m26 hstf_m26) 1 gX5_cut_X5_takeOut rfl ⟨rfl, rfl⟩ (by decide +kernel) ⟨by rw [hR_]; exact Nat.le_of_ble_eq_true rfl, by rw [hR_]; exact Nat.le_of_ble_eq_true rfl⟩ 0 5 rfl rfl rfl rfl rfl hl_.1 (Nat.le_of_ble_eq_true rfl) dX5_cut_101 ⟨Nat.zero_le _, Nat.zero_le _⟩ (fun H locs hP_ hD_ hS_ => ?_)
                refine lv_iinc (v := jI (v16 + 1)) (lv' := [(3, .int (jI (v16 + 1))), (0, .ref (a 0)), (1, .int (jI x1)), (2, .int (jI x2)), (4, .int (jI v17))]) hx_ hb_ dX5_cut_104 hl_ (k := 3) rfl (jI_add _ _) (by decide) rfl (fun ls hl_ => ?_)
                refine lv_iinc (v := jI (v17 + (-1))) (lv' := [(4, .int (jI (v17 + (-1)))), (3, .int (jI (v16 + 1))), (0, .ref (a 0)), (1, .int (jI x1)), (2, .int (jI x2))]) hx_ hb_ dX5_cut_107 hl_ (k := 4) rfl (jI_add _ _) (by decide) rfl (fun ls hl_ => ?_)
                refine lv_goto (tgt := 38) hx_ hb_ dX5_cut_110 (by decide) ?_
                exact ih38 _ _ _ _ _ _ _ _ ls h_ hP_ hD_ hS_ (lv_sub hl_ [2, 3, 4, 1, 0] rfl)
        exact hL38 fu _ _ _ _ _ _ _ _ ls h_ hP_ hD_ hS_ (lv_sub hl_ [2, 3, 4, 1, 0] rfl)
      · refine lv_bipush (v := jI (-2)) hx_ hb_ dX5_cut_19 (by decide +kernel) ?_
        exact hE_ _ _ _ _ _ _ _ _ _ h_ dX5_cut_21 hP_ hD_ hS_
  exact key_ _ (fun v9 rc9 mv9 stf9 hsf9 H locs pc ls h9_ hdg_ hP_ hD_ hS_ => by cases h9_; exact jend_i hx_ hb_ hr_ hlocks_ hP_ hD_ hS_ hdg_)
def rm_X5_isBetween : Room := { frames := 1, cells := 0, slots := 0, locals := 22 }
set_option maxRecDepth 100000 in
set_option maxHeartbeats 8000000 in
theorem c_X5_isBetween (l : Launch) (D : va_G) (y : Nat → ClassId) (z : Nat → Nat) (a : Nat → Nat) (rc : Int) (is_ : Int → Int) (pd : Int → Int) (pn : Int) (ho : Int → Int) (eh : Int → Int) (mv : Int → Int) (at_ : Int) (tk : Int) (fs : Int) (lt : Int) (ea : Int) (stf : Int → Int) (kpf : Int → Int) (hsf : Int → Int) (slf : Int → Int) (x1 : Int) (x2 : Int) (x3 : Int) (fu : Nat) (rr : Int) (h_ : f_X5_isBetween fu stf x1 x2 x3 = some rr) : jCI l D y z yX5_isBetween wsX5_isBetween rm_X5_isBetween [.ref (a 0), .int (jI x1), .int (jI x2), .int (jI x3)] [(wMo y a rc is_ pd pn ho eh mv at_ tk fs lt ea), (wAr y (a 6) 205 stf), (wAr y (a 7) 205 kpf), (wAr y (a 8) 1230 hsf), (wAr y (a 9) 410 slf)] [(wMo y a rc is_ pd pn ho eh mv at_ tk fs lt ea), (wAr y (a 6) 205 stf), (wAr y (a 7) 205 kpf), (wAr y (a 8) 1230 hsf), (wAr y (a 9) 410 slf)] rr := by
  intro sz
  refine jmet (Qc := (fun A => va_Qi (fun v (_ : Unit) => v = jI rr) (jB D A [(wMo y a rc is_ pd pn ho eh mv at_ tk fs lt ea), (wAr y (a 6) 205 stf), (wAr y (a 7) 205 kpf), (wAr y (a 8) 1230 hsf), (wAr y (a 9) 410 slf)]) A)) (cc := cX5_isBetween) (maxL := 4) (ret := (some .boolean)) (own := RX5) (by decide) rfl (Nat.le_of_ble_eq_true rfl) rfl (fun p e s m R args below meth c A ls hR_ hargs_ hx_ hb_ hr_ hlocks_ hml_ hown_ hts_ hname_ hsz_ hP_ hD_ hA_ hM_ hl_ => ?_)
  have key_ : ∀ Q : State → Prop, (∀ (v9 : Int) (H : Heap) (locs : List Loc) (pc : Nat) (ls : Array Slot), some v9 = some rr → (v9 = 0 ∨ v9 = 1) → decode cX5_isBetween pc = .ok (.ireturn, 1) → va_P D vwCl [(wMo y a rc is_ pd pn ho eh mv at_ tk fs lt ea), (wAr y (a 6) 205 stf), (wAr y (a 7) 205 kpf), (wAr y (a 8) 1230 hsf), (wAr y (a 9) 410 slf)].flatten H → va_D A [(wMo y a rc is_ pd pn ho eh mv at_ tk fs lt ea), (wAr y (a 6) 205 stf), (wAr y (a 7) 205 kpf), (wAr y (a 8) 1230 hsf), (wAr y (a 9) 410 slf)].flatten → va_S A s.heap H locs → W p l e R s m args below meth c H locs 0 0 Q (F0 m pc ls [.int (jI v9)])) → W p l e R s m args below meth c s.heap [] 0 0 Q (F0 m 0 ls []) := by
    intro Q hE_
    have hS_ : va_S A s.heap s.heap [] := va_S.rf
    have hl_ : lv_has ls 4 [(0, .ref (a 0)), (1, .int (jI x1)), (2, .int (jI x2)), (3, .int (jI x3))] := hl_
    have hin_ : ∀ w ∈ u_ws RX5 TX5 16, w ∈ wsX5_isBetween := by decide +kernel
    unfold f_X5_isBetween at h_
    refine lv_aload_n hx_ hb_ dX5_isBetween_0 rfl (lv_at hl_ 0 rfl) ?_
    refine lv_iload_n hx_ hb_ dX5_isBetween_1 rfl (lv_at hl_ 1 rfl) ?_
    refine lv_iconst (v := jI 1) hx_ hb_ dX5_isBetween_2 (by decide +kernel) ?_
    obtain ⟨v1, hv1, h_⟩ := jb_i h_
    refine jx_cvi (wr := []) (cw := [(wMo y a rc is_ pd pn ho eh mv at_ tk fs lt ea), (wAr y (a 6) 205 stf), (wAr y (a 7) 205 kpf), (wAr y (a 8) 1230 hsf), (wAr y (a 9) 410 slf)]) (cw1 := [(wMo y a rc is_ pd pn ho eh mv at_ tk fs lt ea), (wAr y (a 6) 205 stf), (wAr y (a 7) 205 kpf), (wAr y (a 8) 1230 hsf), (wAr y (a 9) 410 slf)]) (cs1 := [(wMo y a rc is_ pd pn ho eh mv at_ tk fs lt ea), (wAr y (a 6) 205 stf), (wAr y (a 7) 205 kpf), (wAr y (a 8) 1230 hsf), (wAr y (a 9) 410 slf)]) (As := [.int (jI x1), .int (jI 1)]) (rest := []) ⟨hx_, hb_, hml_, hown_, hts_⟩ hM_ hP_ hD_ hS_ hA_ (List.Perm.refl _) (List.Perm.refl _) (c_X5_part l D y z a rc is_ pd pn ho eh mv at_ tk fs lt ea stf kpf hsf slf x1 1 fu v1 hv1) 2 gX5_isBetween_X5_part rfl ⟨rfl, rfl⟩ (by decide +kernel) ⟨by rw [hR_]; exact Nat.le_of_ble_eq_true rfl, by rw [hR_]; exact Nat.le_of_ble_eq_true rfl⟩ 0 5 rfl rfl rfl rfl rfl hl_.1 (Nat.le_of_ble_eq_true rfl) dX5_isBetween_3 ⟨Nat.zero_le _, Nat.zero_le _⟩ (fun H locs hP_ hD_ hS_ => ?_)
    refine lv_iload_n hx_ hb_ dX5_isBetween_6 rfl (lv_at hl_ 2 rfl) ?_
    refine jx_icmp_lt (tgt := 24) hx_ hb_ h_ dX5_isBetween_7 (by decide) (fun h_ => ?_) (fun h_ => ?_)
    · refine lv_iconst (v := jI 0) hx_ hb_ dX5_isBetween_24 (by decide +kernel) ?_
      obtain ⟨hz_, h_⟩ := jbo_i h_
      exact hE_ _ _ _ _ _ h_ hz_ dX5_isBetween_25 hP_ hD_ hS_
    · refine lv_aload_n hx_ hb_ dX5_isBetween_10 rfl (lv_at hl_ 0 rfl) ?_
      refine lv_iload_n hx_ hb_ dX5_isBetween_11 rfl (lv_at hl_ 1 rfl) ?_
      refine lv_iconst (v := jI 2) hx_ hb_ dX5_isBetween_12 (by decide +kernel) ?_
      obtain ⟨v2, hv2, h_⟩ := jb_i h_
      refine jx_cvi (wr := []) (cw := [(wMo y a rc is_ pd pn ho eh mv at_ tk fs lt ea), (wAr y (a 6) 205 stf), (wAr y (a 7) 205 kpf), (wAr y (a 8) 1230 hsf), (wAr y (a 9) 410 slf)]) (cw1 := [(wMo y a rc is_ pd pn ho eh mv at_ tk fs lt ea), (wAr y (a 6) 205 stf), (wAr y (a 7) 205 kpf), (wAr y (a 8) 1230 hsf), (wAr y (a 9) 410 slf)]) (cs1 := [(wMo y a rc is_ pd pn ho eh mv at_ tk fs lt ea), (wAr y (a 6) 205 stf), (wAr y (a 7) 205 kpf), (wAr y (a 8) 1230 hsf), (wAr y (a 9) 410 slf)]) (As := [.int (jI x1), .int (jI 2)]) (rest := []) ⟨hx_, hb_, hml_, hown_, hts_⟩ hM_ hP_ hD_ hS_ hA_ (List.Perm.refl _) (List.Perm.refl _) (c_X5_part l D y z a rc is_ pd pn ho eh mv at_ tk fs lt ea stf kpf hsf slf x1 2 fu v2 hv2) 2 gX5_isBetween_X5_part rfl ⟨rfl, rfl⟩ (by decide +kernel) ⟨by rw [hR_]; exact Nat.le_of_ble_eq_true rfl, by rw [hR_]; exact Nat.le_of_ble_eq_true rfl⟩ 0 5 rfl rfl rfl rfl rfl hl_.1 (Nat.le_of_ble_eq_true rfl) dX5_isBetween_13 ⟨Nat.zero_le _, Nat.zero_le _⟩ (fun H locs hP_ hD_ hS_ => ?_)
      refine lv_iload_n hx_ hb_ dX5_isBetween_16 rfl (lv_at hl_ 3 rfl) ?_
      refine jx_icmp_gt (tgt := 24) hx_ hb_ h_ dX5_isBetween_17 (by decide) (fun h_ => ?_) (fun h_ => ?_)
      · refine lv_iconst (v := jI 0) hx_ hb_ dX5_isBetween_24 (by decide +kernel) ?_
        obtain ⟨hz_, h_⟩ := jbo_i h_
        exact hE_ _ _ _ _ _ h_ hz_ dX5_isBetween_25 hP_ hD_ hS_
      · refine lv_iconst (v := jI 1) hx_ hb_ dX5_isBetween_20 (by decide +kernel) ?_
        refine lv_goto (tgt := 25) hx_ hb_ dX5_isBetween_21 (by decide) ?_
        obtain ⟨hz_, h_⟩ := jbo_i h_
        exact hE_ _ _ _ _ _ h_ hz_ dX5_isBetween_25 hP_ hD_ hS_
  exact key_ _ (fun v9 H locs pc ls h9_ hz_ hdg_ hP_ hD_ hS_ => by cases h9_; exact jend_z hx_ hb_ hr_ hlocks_ hz_ hP_ hD_ hS_ hdg_)
def rm_X5_betweenMany : Room := { frames := 2, cells := 0, slots := 0, locals := 45 }
set_option maxRecDepth 100000 in
set_option maxHeartbeats 8000000 in
theorem c_X5_betweenMany (l : Launch) (D : va_G) (y : Nat → ClassId) (z : Nat → Nat) (a : Nat → Nat) (rc : Int) (is_ : Int → Int) (pd : Int → Int) (pn : Int) (ho : Int → Int) (eh : Int → Int) (mv : Int → Int) (at_ : Int) (tk : Int) (fs : Int) (lt : Int) (ea : Int) (stf : Int → Int) (kpf : Int → Int) (hsf : Int → Int) (slf : Int → Int) (x1 : Int) (x2 : Int) (fu : Nat) (rr : Int) (h_ : f_X5_betweenMany fu stf x1 x2 = some rr) : jCI l D y z yX5_betweenMany wsX5_betweenMany rm_X5_betweenMany [.ref (a 0), .int (jI x1), .int (jI x2)] [(wMo y a rc is_ pd pn ho eh mv at_ tk fs lt ea), (wAr y (a 6) 205 stf), (wAr y (a 7) 205 kpf), (wAr y (a 8) 1230 hsf), (wAr y (a 9) 410 slf)] [(wMo y a rc is_ pd pn ho eh mv at_ tk fs lt ea), (wAr y (a 6) 205 stf), (wAr y (a 7) 205 kpf), (wAr y (a 8) 1230 hsf), (wAr y (a 9) 410 slf)] rr := by
  intro sz
  refine jmet (Qc := (fun A => va_Qi (fun v (_ : Unit) => v = jI rr) (jB D A [(wMo y a rc is_ pd pn ho eh mv at_ tk fs lt ea), (wAr y (a 6) 205 stf), (wAr y (a 7) 205 kpf), (wAr y (a 8) 1230 hsf), (wAr y (a 9) 410 slf)]) A)) (cc := cX5_betweenMany) (maxL := 5) (ret := (some .int)) (own := RX5) (by decide) rfl (Nat.le_of_ble_eq_true rfl) rfl (fun p e s m R args below meth c A ls hR_ hargs_ hx_ hb_ hr_ hlocks_ hml_ hown_ hts_ hname_ hsz_ hP_ hD_ hA_ hM_ hl_ => ?_)
  have key_ : ∀ Q : State → Prop, (∀ (v9 : Int) (H : Heap) (locs : List Loc) (pc : Nat) (ls : Array Slot), some v9 = some rr → decode cX5_betweenMany pc = .ok (.ireturn, 1) → va_P D vwCl [(wMo y a rc is_ pd pn ho eh mv at_ tk fs lt ea), (wAr y (a 6) 205 stf), (wAr y (a 7) 205 kpf), (wAr y (a 8) 1230 hsf), (wAr y (a 9) 410 slf)].flatten H → va_D A [(wMo y a rc is_ pd pn ho eh mv at_ tk fs lt ea), (wAr y (a 6) 205 stf), (wAr y (a 7) 205 kpf), (wAr y (a 8) 1230 hsf), (wAr y (a 9) 410 slf)].flatten → va_S A s.heap H locs → W p l e R s m args below meth c H locs 0 0 Q (F0 m pc ls [.int (jI v9)])) → W p l e R s m args below meth c s.heap [] 0 0 Q (F0 m 0 ls []) := by
    intro Q hE_
    have hS_ : va_S A s.heap s.heap [] := va_S.rf
    have hl_ : lv_has ls 5 [(0, .ref (a 0)), (1, .int (jI x1)), (2, .int (jI x2))] := hl_
    have hin_ : ∀ w ∈ u_ws RX5 TX5 16, w ∈ wsX5_betweenMany := by decide +kernel
    unfold f_X5_betweenMany at h_
    refine lv_iconst (v := jI 0) hx_ hb_ dX5_betweenMany_0 (by decide +kernel) ?_
    refine lv_istore_n (lv' := [(3, .int (jI 0)), (0, .ref (a 0)), (1, .int (jI x1)), (2, .int (jI x2))]) hx_ hb_ dX5_betweenMany_1 rfl hl_ (by decide) rfl (fun ls hl_ => ?_)
    refine lv_iconst (v := jI 0) hx_ hb_ dX5_betweenMany_2 (by decide +kernel) ?_
    refine lv_istore (lv' := [(4, .int (jI 0)), (3, .int (jI 0)), (0, .ref (a 0)), (1, .int (jI x1)), (2, .int (jI x2))]) hx_ hb_ dX5_betweenMany_3 hl_ (by decide) rfl (fun ls hl_ => ?_)
    have hX41 : ∀ (v1 : Int) (H : Heap) (locs : List Loc) (ls : Array Slot), f_X5_betweenMany_X41 fu v1 = some rr → va_P D vwCl [(wMo y a rc is_ pd pn ho eh mv at_ tk fs lt ea), (wAr y (a 6) 205 stf), (wAr y (a 7) 205 kpf), (wAr y (a 8) 1230 hsf), (wAr y (a 9) 410 slf)].flatten H → va_D A [(wMo y a rc is_ pd pn ho eh mv at_ tk fs lt ea), (wAr y (a 6) 205 stf), (wAr y (a 7) 205 kpf), (wAr y (a 8) 1230 hsf), (wAr y (a 9) 410 slf)].flatten → va_S A s.heap H locs → lv_has ls 5 [(3, .int (jI v1))] → W p l e R s m args below meth c H locs 0 0 Q (F0 m 41 ls []) := by
      intro v1 H locs ls h_ hP_ hD_ hS_ hl_
      unfold f_X5_betweenMany_X41 at h_
      refine lv_iload_n hx_ hb_ dX5_betweenMany_41 rfl (lv_at hl_ 0 rfl) ?_
      exact hE_ _ _ _ _ _ h_ dX5_betweenMany_42 hP_ hD_ hS_
    have hL5 : ∀ n5 : Nat, ∀ (v2 : Int) (v3 : Int) (H : Heap) (locs : List Loc) (ls : Array Slot), f_X5_betweenMany_L5 fu stf x1 x2 (f_X5_betweenMany_X41 fu) n5 v2 v3 = some rr → va_P D vwCl [(wMo y a rc is_ pd pn ho eh mv at_ tk fs lt ea), (wAr y (a 6) 205 stf), (wAr y (a 7) 205 kpf), (wAr y (a 8) 1230 hsf), (wAr y (a 9) 410 slf)].flatten H → va_D A [(wMo y a rc is_ pd pn ho eh mv at_ tk fs lt ea), (wAr y (a 6) 205 stf), (wAr y (a 7) 205 kpf), (wAr y (a 8) 1230 hsf), (wAr y (a 9) 410 slf)].flatten → va_S A s.heap H locs → lv_has ls 5 [(0, .ref (a 0)), (1, .int (jI x1)), (2, .int (jI x2)), (3, .int (jI v2)), (4, .int (jI v3))] → W p l e R s m args below meth c H locs 0 0 Q (F0 m 5 ls []) := by
      intro n5
      induction n5 with
      | zero => intro _ _ H locs ls h_; have h_ : (none : Option (Int)) = some rr := h_; cases h_
      | succ n5 ih5 =>
        intro v2 v3 H locs ls h_ hP_ hD_ hS_ hl_
        replace h_ : f_X5_betweenMany_L5_b fu stf x1 x2 (f_X5_betweenMany_X41 fu) (f_X5_betweenMany_L5 fu stf x1 x2 (f_X5_betweenMany_X41 fu) n5) v2 v3 = some rr := h_
        unfold f_X5_betweenMany_L5_b at h_
        refine lv_iload hx_ hb_ dX5_betweenMany_5 (lv_at hl_ 4 rfl) ?_
        refine lv_aload_n hx_ hb_ dX5_betweenMany_7 rfl (lv_at hl_ 0 rfl) ?_
        refine va_get (D := D) (ci := 5) (v := .ref (a 6)) (C := RX5) (T := TX5) (N := 16) hx_ hb_ hts_ hin_ hown_ hM_.1 hP_ 0 rfl rfl 0 (by decide) (hts_ (.fieldLink RX5 7 "MusicHolesModel" "state" "[I") (by decide +kernel)) (fun _ h9_ => h9_) rfl dX5_betweenMany_8 ?_
        refine lv_iconst (v := jI 4) hx_ hb_ dX5_betweenMany_11 (by decide +kernel) ?_
        refine jx_iald hx_ hb_ hM_ hP_ 6 0 rfl rfl rfl (Nat.le_of_ble_eq_true rfl) h_ dX5_betweenMany_12 (fun h_ => ?_)
        refine jx_icmp_ge (tgt := 41) hx_ hb_ h_ dX5_betweenMany_13 (by decide) (fun h_ => ?_) (fun h_ => ?_)
        · exact hX41 _ _ _ ls h_ hP_ hD_ hS_ (lv_sub hl_ [3] rfl)
        · refine lv_iload_n hx_ hb_ dX5_betweenMany_16 rfl (lv_at hl_ 3 rfl) ?_
          refine lv_aload_n hx_ hb_ dX5_betweenMany_17 rfl (lv_at hl_ 0 rfl) ?_
          refine lv_iload hx_ hb_ dX5_betweenMany_18 (lv_at hl_ 4 rfl) ?_
          refine lv_iload_n hx_ hb_ dX5_betweenMany_20 rfl (lv_at hl_ 1 rfl) ?_
          refine lv_iload_n hx_ hb_ dX5_betweenMany_21 rfl (lv_at hl_ 2 rfl) ?_
          obtain ⟨v4, hv4, h_⟩ := jb_i h_
          refine jx_cvi (wr := []) (cw := [(wMo y a rc is_ pd pn ho eh mv at_ tk fs lt ea), (wAr y (a 6) 205 stf), (wAr y (a 7) 205 kpf), (wAr y (a 8) 1230 hsf), (wAr y (a 9) 410 slf)]) (cw1 := [(wMo y a rc is_ pd pn ho eh mv at_ tk fs lt ea), (wAr y (a 6) 205 stf), (wAr y (a 7) 205 kpf), (wAr y (a 8) 1230 hsf), (wAr y (a 9) 410 slf)]) (cs1 := [(wMo y a rc is_ pd pn ho eh mv at_ tk fs lt ea), (wAr y (a 6) 205 stf), (wAr y (a 7) 205 kpf), (wAr y (a 8) 1230 hsf), (wAr y (a 9) 410 slf)]) (As := [.int (jI v3), .int (jI x1), .int (jI x2)]) (rest := [.int (jI v2)]) ⟨hx_, hb_, hml_, hown_, hts_⟩ hM_ hP_ hD_ hS_ hA_ (List.Perm.refl _) (List.Perm.refl _) (c_X5_isBetween l D y z a rc is_ pd pn ho eh mv at_ tk fs lt ea stf kpf hsf slf v3 x1 x2 fu v4 hv4) 3 gX5_betweenMany_X5_isBetween rfl ⟨rfl, rfl⟩ (by decide +kernel) ⟨by rw [hR_]; exact Nat.le_of_ble_eq_true rfl, by rw [hR_]; exact Nat.le_of_ble_eq_true rfl⟩ 0 5 rfl rfl rfl rfl rfl hl_.1 (Nat.le_of_ble_eq_true rfl) dX5_betweenMany_22 ⟨Nat.zero_le _, Nat.zero_le _⟩ (fun H locs hP_ hD_ hS_ => ?_)
          refine jx_if_eq (tgt := 32) hx_ hb_ h_ dX5_betweenMany_25 (by decide) (fun h_ => ?_) (fun h_ => ?_)
          · refine lv_iconst (v := jI 0) hx_ hb_ dX5_betweenMany_32 (by decide +kernel) ?_
            refine jx_iadd hx_ hb_ dX5_betweenMany_33 ?_
            refine lv_istore_n (lv' := [(3, .int (jI (v2 + 0))), (0, .ref (a 0)), (1, .int (jI x1)), (2, .int (jI x2)), (4, .int (jI v3))]) hx_ hb_ dX5_betweenMany_34 rfl hl_ (by decide) rfl (fun ls hl_ => ?_)
            refine lv_iinc (v := jI (v3 + 1)) (lv' := [(4, .int (jI (v3 + 1))), (3, .int (jI (v2 + 0))), (0, .ref (a 0)), (1, .int (jI x1)), (2, .int (jI x2))]) hx_ hb_ dX5_betweenMany_35 hl_ (k := 4) rfl (jI_add _ _) (by decide) rfl (fun ls hl_ => ?_)
            refine lv_goto (tgt := 5) hx_ hb_ dX5_betweenMany_38 (by decide) ?_
            exact ih5 _ _ _ _ ls h_ hP_ hD_ hS_ (lv_sub hl_ [2, 3, 4, 1, 0] rfl)
          · refine lv_iconst (v := jI 1) hx_ hb_ dX5_betweenMany_28 (by decide +kernel) ?_
            refine lv_goto (tgt := 33) hx_ hb_ dX5_betweenMany_29 (by decide) ?_
            refine jx_iadd hx_ hb_ dX5_betweenMany_33 ?_
            refine lv_istore_n (lv' := [(3, .int (jI (v2 + 1))), (0, .ref (a 0)), (1, .int (jI x1)), (2, .int (jI x2)), (4, .int (jI v3))]) hx_ hb_ dX5_betweenMany_34 rfl hl_ (by decide) rfl (fun ls hl_ => ?_)
            refine lv_iinc (v := jI (v3 + 1)) (lv' := [(4, .int (jI (v3 + 1))), (3, .int (jI (v2 + 1))), (0, .ref (a 0)), (1, .int (jI x1)), (2, .int (jI x2))]) hx_ hb_ dX5_betweenMany_35 hl_ (k := 4) rfl (jI_add _ _) (by decide) rfl (fun ls hl_ => ?_)
            refine lv_goto (tgt := 5) hx_ hb_ dX5_betweenMany_38 (by decide) ?_
            exact ih5 _ _ _ _ ls h_ hP_ hD_ hS_ (lv_sub hl_ [2, 3, 4, 1, 0] rfl)
    exact hL5 fu _ _ _ _ ls h_ hP_ hD_ hS_ (lv_sub hl_ [2, 3, 4, 1, 0] rfl)
  exact key_ _ (fun v9 H locs pc ls h9_ hdg_ hP_ hD_ hS_ => by cases h9_; exact jend_i hx_ hb_ hr_ hlocks_ hP_ hD_ hS_ hdg_)
