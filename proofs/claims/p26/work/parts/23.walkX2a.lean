def rm_X2_holesAt : Room := { frames := 2, cells := 0, slots := 0, locals := 42 }
set_option maxRecDepth 100000 in
set_option maxHeartbeats 8000000 in
theorem c_X2_holesAt (l : Launch) (D : va_G) (y : Nat → ClassId) (z : Nat → Nat) (a : Nat → Nat) (eh : Int → Int) (we : Int) (hf : Int → Int) (x1 : Int) (fu : Nat) (rr : Int) (h_ : f_X2_holesAt fu hf x1 = some rr) : jCI l D y z yX2_holesAt wsX2_holesAt rm_X2_holesAt [.ref (a 0), .int (jI x1)] [(wPa y a eh we), (wAr y (a 2) 100 hf)] [(wPa y a eh we), (wAr y (a 2) 100 hf)] rr := by
  intro sz
  refine jmet (Qc := (fun A => va_Qi (fun v (_ : Unit) => v = jI rr) (jB D A [(wPa y a eh we), (wAr y (a 2) 100 hf)]) A)) (cc := cX2_holesAt) (maxL := 2) (ret := (some .int)) (own := RX2) (by decide) rfl (Nat.le_of_ble_eq_true rfl) rfl (fun p e s m R args below meth c A ls hR_ hargs_ hx_ hb_ hr_ hlocks_ hml_ hown_ hts_ hname_ hsz_ hP_ hD_ hA_ hM_ hl_ => ?_)
  have key_ : ∀ Q : State → Prop, (∀ (v9 : Int) (H : Heap) (locs : List Loc) (pc : Nat) (ls : Array Slot), some v9 = some rr → decode cX2_holesAt pc = .ok (.ireturn, 1) → va_P D vwCl [(wPa y a eh we), (wAr y (a 2) 100 hf)].flatten H → va_D A [(wPa y a eh we), (wAr y (a 2) 100 hf)].flatten → va_S A s.heap H locs → W p l e R s m args below meth c H locs 0 0 Q (F0 m pc ls [.int (jI v9)])) → W p l e R s m args below meth c s.heap [] 0 0 Q (F0 m 0 ls []) := by
    intro Q hE_
    have hS_ : va_S A s.heap s.heap [] := va_S.rf
    have hl_ : lv_has ls 2 [(0, .ref (a 0)), (1, .int (jI x1))] := hl_
    have hin_ : ∀ w ∈ u_ws RX2 TX2 3, w ∈ wsX2_holesAt := by decide +kernel
    unfold f_X2_holesAt at h_
    refine lv_iload_n hx_ hb_ dX2_holesAt_0 rfl (lv_at hl_ 1 rfl) ?_
    obtain ⟨v1, hv1, h_⟩ := jb_i h_
    refine jx_cni (ws1 := []) (As := [.int (jI x1)]) (rest := []) ⟨hx_, hb_, hml_, hown_, hts_⟩ hM_ hP_ hD_ hS_ hA_ (c_X4_isStep l D y z x1 fu v1 hv1) 1 ⟨va_cnB 1 hts_ gX2_holesAt_X4_isStep_n66 rfl rfl rfl hM_.2.1.2.2.2.1 (hts_ (.initialized RX4) (by decide +kernel)) (by decide +kernel) ⟨by rw [hR_]; exact Nat.le_of_ble_eq_true rfl, by rw [hR_]; exact Nat.le_of_ble_eq_true rfl⟩, hts_ (.static yX4_isStep) (by decide +kernel), trivial⟩ rfl rfl hl_.1 (Nat.le_of_ble_eq_true rfl) dX2_holesAt_1 ⟨Nat.zero_le _, Nat.zero_le _⟩ (fun H locs hP_ hD_ hS_ => ?_)
    refine jx_if_eq (tgt := 16) hx_ hb_ h_ dX2_holesAt_4 (by decide) (fun h_ => ?_) (fun h_ => ?_)
    · refine lv_iconst (v := jI 0) hx_ hb_ dX2_holesAt_16 (by decide +kernel) ?_
      exact hE_ _ _ _ _ _ h_ dX2_holesAt_17 hP_ hD_ hS_
    · refine lv_aload_n hx_ hb_ dX2_holesAt_7 rfl (lv_at hl_ 0 rfl) ?_
      refine va_get (D := D) (ci := 2) (v := .ref (a 2)) (C := RX2) (T := TX2) (N := 3) hx_ hb_ hts_ hin_ hown_ hM_.1 hP_ 0 rfl rfl 0 (by decide) (hts_ (.fieldLink RX2 9 "MusicHoles$Paper" "holes" "[I") (by decide +kernel)) (fun _ h9_ => h9_) rfl dX2_holesAt_8 ?_
      refine lv_iload_n hx_ hb_ dX2_holesAt_11 rfl (lv_at hl_ 1 rfl) ?_
      refine jx_iald hx_ hb_ hM_ hP_ 2 0 rfl rfl rfl (Nat.le_of_ble_eq_true rfl) h_ dX2_holesAt_12 (fun h_ => ?_)
      refine lv_goto (tgt := 17) hx_ hb_ dX2_holesAt_13 (by decide) ?_
      exact hE_ _ _ _ _ _ h_ dX2_holesAt_17 hP_ hD_ hS_
  exact key_ _ (fun v9 H locs pc ls h9_ hdg_ hP_ hD_ hS_ => by cases h9_; exact jend_i hx_ hb_ hr_ hlocks_ hP_ hD_ hS_ hdg_)
def rm_X2_listen : Room := { frames := 3, cells := 0, slots := 0, locals := 63 }
set_option maxRecDepth 100000 in
set_option maxHeartbeats 8000000 in
theorem c_X2_listen (l : Launch) (D : va_G) (y : Nat → ClassId) (z : Nat → Nat) (a : Nat → Nat) (eh : Int → Int) (we : Int) (hf : Int → Int) (x1 : Int) (fu : Nat) (q_eh : Int → Int) (h_ : f_X2_listen fu eh hf x1 = some q_eh) : jCV l D y z yX2_listen wsX2_listen rm_X2_listen [.ref (a 0), .int (jI x1)] [(wPa y a eh we), (wAr y (a 2) 100 hf)] [(wPa y a q_eh we), (wAr y (a 2) 100 hf)] := by
  intro sz
  refine jmet (Qc := (fun A => va_Qv (fun (_ : Unit) => True) (jB D A [(wPa y a q_eh we), (wAr y (a 2) 100 hf)]) A)) (cc := cX2_listen) (maxL := 5) (ret := none) (own := RX2) (by decide) rfl (Nat.le_of_ble_eq_true rfl) rfl (fun p e s m R args below meth c A ls hR_ hargs_ hx_ hb_ hr_ hlocks_ hml_ hown_ hts_ hname_ hsz_ hP_ hD_ hA_ hM_ hl_ => ?_)
  have key_ : ∀ Q : State → Prop, (∀ (eh9 : Int → Int) (H : Heap) (locs : List Loc) (pc : Nat) (ls : Array Slot), some eh9 = some q_eh → decode cX2_listen pc = .ok (.return_, 1) → va_P D vwCl [(wPa y a eh9 we), (wAr y (a 2) 100 hf)].flatten H → va_D A [(wPa y a eh9 we), (wAr y (a 2) 100 hf)].flatten → va_S A s.heap H locs → W p l e R s m args below meth c H locs 0 0 Q (F0 m pc ls [])) → W p l e R s m args below meth c s.heap [] 0 0 Q (F0 m 0 ls []) := by
    intro Q hE_
    have hS_ : va_S A s.heap s.heap [] := va_S.rf
    have hl_ : lv_has ls 5 [(0, .ref (a 0)), (1, .int (jI x1))] := hl_
    have hin_ : ∀ w ∈ u_ws RX2 TX2 3, w ∈ wsX2_listen := by decide +kernel
    unfold f_X2_listen at h_
    refine lv_iconst (v := jI 0) hx_ hb_ dX2_listen_0 (by decide +kernel) ?_
    refine lv_istore_n (lv' := [(2, .int (jI 0)), (0, .ref (a 0)), (1, .int (jI x1))]) hx_ hb_ dX2_listen_1 rfl hl_ (by decide) rfl (fun ls hl_ => ?_)
    have hX53 : ∀ (eh_m1 : Int → Int) (H : Heap) (locs : List Loc) (ls : Array Slot), f_X2_listen_X53 fu eh_m1 = some q_eh → va_P D vwCl [(wPa y a eh_m1 we), (wAr y (a 2) 100 hf)].flatten H → va_D A [(wPa y a eh_m1 we), (wAr y (a 2) 100 hf)].flatten → va_S A s.heap H locs → lv_has ls 5 [] → W p l e R s m args below meth c H locs 0 0 Q (F0 m 53 ls []) := by
      intro eh_m1 H locs ls h_ hP_ hD_ hS_ hl_
      unfold f_X2_listen_X53 at h_
      exact hE_ _ _ _ _ _ h_ dX2_listen_53 hP_ hD_ hS_
    have hL2 : ∀ n2 : Nat, ∀ (eh_m2 : Int → Int) (v3 : Int) (H : Heap) (locs : List Loc) (ls : Array Slot), f_X2_listen_L2 fu hf x1 (f_X2_listen_X53 fu) n2 eh_m2 v3 = some q_eh → va_P D vwCl [(wPa y a eh_m2 we), (wAr y (a 2) 100 hf)].flatten H → va_D A [(wPa y a eh_m2 we), (wAr y (a 2) 100 hf)].flatten → va_S A s.heap H locs → lv_has ls 5 [(0, .ref (a 0)), (1, .int (jI x1)), (2, .int (jI v3))] → W p l e R s m args below meth c H locs 0 0 Q (F0 m 2 ls []) := by
      intro n2
      induction n2 with
      | zero => intro _ _ H locs ls h_; have h_ : (none : Option ((Int → Int))) = some q_eh := h_; cases h_
      | succ n2 ih2 =>
        intro eh_m2 v3 H locs ls h_ hP_ hD_ hS_ hl_
        replace h_ : f_X2_listen_L2_b fu hf x1 (f_X2_listen_X53 fu) (f_X2_listen_L2 fu hf x1 (f_X2_listen_X53 fu) n2) eh_m2 v3 = some q_eh := h_
        unfold f_X2_listen_L2_b at h_
        refine lv_iload_n hx_ hb_ dX2_listen_2 rfl (lv_at hl_ 2 rfl) ?_
        refine lv_bipush (v := jI 100) hx_ hb_ dX2_listen_3 (by decide +kernel) ?_
        refine jx_icmp_ge (tgt := 53) hx_ hb_ h_ dX2_listen_5 (by decide) (fun h_ => ?_) (fun h_ => ?_)
        · exact hX53 _ _ _ ls h_ hP_ hD_ hS_ (lv_sub hl_ [] rfl)
        · refine lv_iconst (v := jI 0) hx_ hb_ dX2_listen_8 (by decide +kernel) ?_
          refine lv_istore_n (lv' := [(3, .int (jI 0)), (0, .ref (a 0)), (1, .int (jI x1)), (2, .int (jI v3))]) hx_ hb_ dX2_listen_9 rfl hl_ (by decide) rfl (fun ls hl_ => ?_)
          refine lv_iconst (v := jI 0) hx_ hb_ dX2_listen_10 (by decide +kernel) ?_
          refine lv_iload_n hx_ hb_ dX2_listen_11 rfl (lv_at hl_ 3 rfl) ?_
          refine lv_iload_n hx_ hb_ dX2_listen_12 rfl (lv_at hl_ 2 rfl) ?_
          refine jx_isub hx_ hb_ dX2_listen_13 ?_
          refine jx_mmax hx_ hb_ (hml_.trans hl_.1.symm) hown_ (hts_ (.methodLink RX2 69 Lib.Math.max.name) (by decide +kernel)) (hts_ (.static Lib.Math.max.name) (by decide +kernel)) (hts_ (.initialized "java/lang/Math") (by decide +kernel)) (hts_ (.code Lib.Math.max.name Lib.Math.max.code 2 (some .int)) (by decide +kernel)) (by rw [hR_]; exact Nat.le_of_ble_eq_true rfl) (by rw [hR_]; exact Nat.le_of_ble_eq_true rfl) (Nat.zero_le _) (Nat.zero_le _) h_ dX2_listen_14 (fun h_ => ?_)
          refine lv_istore (lv' := [(4, .int (jI (jmax 0 (v3 - x1)))), (3, .int (jI 0)), (0, .ref (a 0)), (1, .int (jI x1)), (2, .int (jI v3))]) hx_ hb_ dX2_listen_17 hl_ (by decide) rfl (fun ls hl_ => ?_)
          have hX40 : ∀ (v4 : Int) (H : Heap) (locs : List Loc) (ls : Array Slot), f_X2_listen_X40 fu eh_m2 v3 (f_X2_listen_L2 fu hf x1 (f_X2_listen_X53 fu) n2) v4 = some q_eh → va_P D vwCl [(wPa y a eh_m2 we), (wAr y (a 2) 100 hf)].flatten H → va_D A [(wPa y a eh_m2 we), (wAr y (a 2) 100 hf)].flatten → va_S A s.heap H locs → lv_has ls 5 [(0, .ref (a 0)), (1, .int (jI x1)), (2, .int (jI v3)), (3, .int (jI v4))] → W p l e R s m args below meth c H locs 0 0 Q (F0 m 40 ls []) := by
            intro v4 H locs ls h_ hP_ hD_ hS_ hl_
            unfold f_X2_listen_X40 at h_
            refine lv_aload_n hx_ hb_ dX2_listen_40 rfl (lv_at hl_ 0 rfl) ?_
            refine va_get (D := D) (ci := 2) (v := .ref (a 1)) (C := RX2) (T := TX2) (N := 3) hx_ hb_ hts_ hin_ hown_ hM_.1 hP_ 0 rfl rfl 1 (by decide) (hts_ (.fieldLink RX2 15 "MusicHoles$Paper" "heard" "[I") (by decide +kernel)) (fun _ h9_ => h9_) rfl dX2_listen_41 ?_
            refine lv_iload_n hx_ hb_ dX2_listen_44 rfl (lv_at hl_ 2 rfl) ?_
            refine lv_iload_n hx_ hb_ dX2_listen_45 rfl (lv_at hl_ 3 rfl) ?_
            refine jx_iast hx_ hb_ hM_ hP_ hD_ hS_ 1 0 rfl rfl rfl (Nat.le_of_ble_eq_true rfl) h_ dX2_listen_46 (fun H locs h_ hP_ hD_ hS_ => ?_)
            have hP_ : va_P D vwCl [(wPa y a (uI eh_m2 v3 v4) we), (wAr y (a 2) 100 hf)].flatten H := hP_
            have hD_ : va_D A [(wPa y a (uI eh_m2 v3 v4) we), (wAr y (a 2) 100 hf)].flatten := hD_
            refine lv_iinc (v := jI (v3 + 1)) (lv' := [(2, .int (jI (v3 + 1))), (0, .ref (a 0)), (1, .int (jI x1)), (3, .int (jI v4))]) hx_ hb_ dX2_listen_47 hl_ (k := 2) rfl (jI_add _ _) (by decide) rfl (fun ls hl_ => ?_)
            refine lv_goto (tgt := 2) hx_ hb_ dX2_listen_50 (by decide) ?_
            exact ih2 _ _ _ _ ls h_ hP_ hD_ hS_ (lv_sub hl_ [1, 2, 0] rfl)
          have hL19 : ∀ n19 : Nat, ∀ (v5 : Int) (v6 : Int) (H : Heap) (locs : List Loc) (ls : Array Slot), f_X2_listen_L19 fu hf v3 (f_X2_listen_X40 fu eh_m2 v3 (f_X2_listen_L2 fu hf x1 (f_X2_listen_X53 fu) n2)) n19 v5 v6 = some q_eh → va_P D vwCl [(wPa y a eh_m2 we), (wAr y (a 2) 100 hf)].flatten H → va_D A [(wPa y a eh_m2 we), (wAr y (a 2) 100 hf)].flatten → va_S A s.heap H locs → lv_has ls 5 [(0, .ref (a 0)), (1, .int (jI x1)), (2, .int (jI v3)), (3, .int (jI v5)), (4, .int (jI v6))] → W p l e R s m args below meth c H locs 0 0 Q (F0 m 19 ls []) := by
            intro n19
            induction n19 with
            | zero => intro _ _ H locs ls h_; have h_ : (none : Option ((Int → Int))) = some q_eh := h_; cases h_
            | succ n19 ih19 =>
              intro v5 v6 H locs ls h_ hP_ hD_ hS_ hl_
              replace h_ : f_X2_listen_L19_b fu hf v3 (f_X2_listen_X40 fu eh_m2 v3 (f_X2_listen_L2 fu hf x1 (f_X2_listen_X53 fu) n2)) (f_X2_listen_L19 fu hf v3 (f_X2_listen_X40 fu eh_m2 v3 (f_X2_listen_L2 fu hf x1 (f_X2_listen_X53 fu) n2)) n19) v5 v6 = some q_eh := h_
              unfold f_X2_listen_L19_b at h_
              refine lv_iload hx_ hb_ dX2_listen_19 (lv_at hl_ 4 rfl) ?_
              refine lv_iload_n hx_ hb_ dX2_listen_21 rfl (lv_at hl_ 2 rfl) ?_
              refine jx_icmp_gt (tgt := 40) hx_ hb_ h_ dX2_listen_22 (by decide) (fun h_ => ?_) (fun h_ => ?_)
              · exact hX40 _ _ _ ls h_ hP_ hD_ hS_ (lv_sub hl_ [0, 1, 2, 3] rfl)
              · refine lv_iload_n hx_ hb_ dX2_listen_25 rfl (lv_at hl_ 3 rfl) ?_
                refine lv_aload_n hx_ hb_ dX2_listen_26 rfl (lv_at hl_ 0 rfl) ?_
                refine lv_iload hx_ hb_ dX2_listen_27 (lv_at hl_ 4 rfl) ?_
                obtain ⟨v7, hv7, h_⟩ := jb_i h_
                refine jx_cvi (wr := []) (cw := [(wPa y a eh_m2 we), (wAr y (a 2) 100 hf)]) (cw1 := [(wPa y a eh_m2 we), (wAr y (a 2) 100 hf)]) (cs1 := [(wPa y a eh_m2 we), (wAr y (a 2) 100 hf)]) (As := [.int (jI v6)]) (rest := [.int (jI v5)]) ⟨hx_, hb_, hml_, hown_, hts_⟩ hM_ hP_ hD_ hS_ hA_ (List.Perm.refl _) (List.Perm.refl _) (c_X2_holesAt l D y z a eh_m2 we hf v6 fu v7 hv7) 1 gX2_listen_X2_holesAt rfl ⟨rfl, rfl⟩ (by decide +kernel) ⟨by rw [hR_]; exact Nat.le_of_ble_eq_true rfl, by rw [hR_]; exact Nat.le_of_ble_eq_true rfl⟩ 0 2 rfl rfl rfl rfl rfl hl_.1 (Nat.le_of_ble_eq_true rfl) dX2_listen_29 ⟨Nat.zero_le _, Nat.zero_le _⟩ (fun H locs hP_ hD_ hS_ => ?_)
                refine jx_ior hx_ hb_ dX2_listen_32 ?_
                refine lv_istore_n (lv' := [(3, .int (jI (jor v5 v7))), (0, .ref (a 0)), (1, .int (jI x1)), (2, .int (jI v3)), (4, .int (jI v6))]) hx_ hb_ dX2_listen_33 rfl hl_ (by decide) rfl (fun ls hl_ => ?_)
                refine lv_iinc (v := jI (v6 + 1)) (lv' := [(4, .int (jI (v6 + 1))), (3, .int (jI (jor v5 v7))), (0, .ref (a 0)), (1, .int (jI x1)), (2, .int (jI v3))]) hx_ hb_ dX2_listen_34 hl_ (k := 4) rfl (jI_add _ _) (by decide) rfl (fun ls hl_ => ?_)
                refine lv_goto (tgt := 19) hx_ hb_ dX2_listen_37 (by decide) ?_
                exact ih19 _ _ _ _ ls h_ hP_ hD_ hS_ (lv_sub hl_ [2, 3, 4, 1, 0] rfl)
          exact hL19 fu _ _ _ _ ls h_ hP_ hD_ hS_ (lv_sub hl_ [2, 3, 4, 1, 0] rfl)
    exact hL2 fu _ _ _ _ ls h_ hP_ hD_ hS_ (lv_sub hl_ [1, 2, 0] rfl)
  exact key_ _ (fun eh9 H locs pc ls h9_ hdg_ hP_ hD_ hS_ => by cases h9_; exact jend_v hx_ hb_ hr_ hlocks_ hP_ hD_ hS_ hdg_)
def rm_X2_punch : Room := { frames := 2, cells := 0, slots := 0, locals := 42 }
set_option maxRecDepth 100000 in
set_option maxHeartbeats 8000000 in
theorem c_X2_punch (l : Launch) (D : va_G) (y : Nat → ClassId) (z : Nat → Nat) (a : Nat → Nat) (eh : Int → Int) (we : Int) (hf : Int → Int) (x1 : Int) (x2 : Int) (fu : Nat) (q_hf : Int → Int) (h_ : f_X2_punch fu hf x1 x2 = some q_hf) : jCV l D y z yX2_punch wsX2_punch rm_X2_punch [.ref (a 0), .int (jI x1), .int (jI x2)] [(wPa y a eh we), (wAr y (a 2) 100 hf)] [(wPa y a eh we), (wAr y (a 2) 100 q_hf)] := by
  intro sz
  refine jmet (Qc := (fun A => va_Qv (fun (_ : Unit) => True) (jB D A [(wPa y a eh we), (wAr y (a 2) 100 q_hf)]) A)) (cc := cX2_punch) (maxL := 3) (ret := none) (own := RX2) (by decide) rfl (Nat.le_of_ble_eq_true rfl) rfl (fun p e s m R args below meth c A ls hR_ hargs_ hx_ hb_ hr_ hlocks_ hml_ hown_ hts_ hname_ hsz_ hP_ hD_ hA_ hM_ hl_ => ?_)
  have key_ : ∀ Q : State → Prop, (∀ (hf9 : Int → Int) (H : Heap) (locs : List Loc) (pc : Nat) (ls : Array Slot), some hf9 = some q_hf → decode cX2_punch pc = .ok (.return_, 1) → va_P D vwCl [(wPa y a eh we), (wAr y (a 2) 100 hf9)].flatten H → va_D A [(wPa y a eh we), (wAr y (a 2) 100 hf9)].flatten → va_S A s.heap H locs → W p l e R s m args below meth c H locs 0 0 Q (F0 m pc ls [])) → W p l e R s m args below meth c s.heap [] 0 0 Q (F0 m 0 ls []) := by
    intro Q hE_
    have hS_ : va_S A s.heap s.heap [] := va_S.rf
    have hl_ : lv_has ls 3 [(0, .ref (a 0)), (1, .int (jI x1)), (2, .int (jI x2))] := hl_
    have hin_ : ∀ w ∈ u_ws RX2 TX2 3, w ∈ wsX2_punch := by decide +kernel
    unfold f_X2_punch at h_
    refine lv_iload_n hx_ hb_ dX2_punch_0 rfl (lv_at hl_ 1 rfl) ?_
    obtain ⟨v1, hv1, h_⟩ := jb_i h_
    refine jx_cni (ws1 := []) (As := [.int (jI x1)]) (rest := []) ⟨hx_, hb_, hml_, hown_, hts_⟩ hM_ hP_ hD_ hS_ hA_ (c_X4_isTrack l D y z x1 fu v1 hv1) 1 ⟨va_cnB 1 hts_ gX2_punch_X4_isTrack_n63 rfl rfl rfl hM_.2.1.2.2.1 (hts_ (.initialized RX4) (by decide +kernel)) (by decide +kernel) ⟨by rw [hR_]; exact Nat.le_of_ble_eq_true rfl, by rw [hR_]; exact Nat.le_of_ble_eq_true rfl⟩, hts_ (.static yX4_isTrack) (by decide +kernel), trivial⟩ rfl rfl hl_.1 (Nat.le_of_ble_eq_true rfl) dX2_punch_1 ⟨Nat.zero_le _, Nat.zero_le _⟩ (fun H locs hP_ hD_ hS_ => ?_)
    refine jx_if_eq (tgt := 26) hx_ hb_ h_ dX2_punch_4 (by decide) (fun h_ => ?_) (fun h_ => ?_)
    · exact hE_ _ _ _ _ _ h_ dX2_punch_26 hP_ hD_ hS_
    · refine lv_iload_n hx_ hb_ dX2_punch_7 rfl (lv_at hl_ 2 rfl) ?_
      obtain ⟨v2, hv2, h_⟩ := jb_i h_
      refine jx_cni (ws1 := []) (As := [.int (jI x2)]) (rest := []) ⟨hx_, hb_, hml_, hown_, hts_⟩ hM_ hP_ hD_ hS_ hA_ (c_X4_isStep l D y z x2 fu v2 hv2) 1 ⟨va_cnB 1 hts_ gX2_punch_X4_isStep_n66 rfl rfl rfl hM_.2.1.2.2.2.1 (hts_ (.initialized RX4) (by decide +kernel)) (by decide +kernel) ⟨by rw [hR_]; exact Nat.le_of_ble_eq_true rfl, by rw [hR_]; exact Nat.le_of_ble_eq_true rfl⟩, hts_ (.static yX4_isStep) (by decide +kernel), trivial⟩ rfl rfl hl_.1 (Nat.le_of_ble_eq_true rfl) dX2_punch_8 ⟨Nat.zero_le _, Nat.zero_le _⟩ (fun H locs hP_ hD_ hS_ => ?_)
      refine jx_if_eq (tgt := 26) hx_ hb_ h_ dX2_punch_11 (by decide) (fun h_ => ?_) (fun h_ => ?_)
      · exact hE_ _ _ _ _ _ h_ dX2_punch_26 hP_ hD_ hS_
      · refine lv_aload_n hx_ hb_ dX2_punch_14 rfl (lv_at hl_ 0 rfl) ?_
        refine va_get (D := D) (ci := 2) (v := .ref (a 2)) (C := RX2) (T := TX2) (N := 3) hx_ hb_ hts_ hin_ hown_ hM_.1 hP_ 0 rfl rfl 0 (by decide) (hts_ (.fieldLink RX2 9 "MusicHoles$Paper" "holes" "[I") (by decide +kernel)) (fun _ h9_ => h9_) rfl dX2_punch_15 ?_
        refine lv_iload_n hx_ hb_ dX2_punch_18 rfl (lv_at hl_ 2 rfl) ?_
        refine lv_dup2_11 hx_ hb_ dX2_punch_19 rfl rfl ?_
        refine jx_iald hx_ hb_ hM_ hP_ 2 0 rfl rfl rfl (Nat.le_of_ble_eq_true rfl) h_ dX2_punch_20 (fun h_ => ?_)
        refine lv_iconst (v := jI 1) hx_ hb_ dX2_punch_21 (by decide +kernel) ?_
        refine lv_iload_n hx_ hb_ dX2_punch_22 rfl (lv_at hl_ 1 rfl) ?_
        refine jx_ishl hx_ hb_ dX2_punch_23 ?_
        refine jx_ior hx_ hb_ dX2_punch_24 ?_
        refine jx_iast hx_ hb_ hM_ hP_ hD_ hS_ 2 0 rfl rfl rfl (Nat.le_of_ble_eq_true rfl) h_ dX2_punch_25 (fun H locs h_ hP_ hD_ hS_ => ?_)
        have hP_ : va_P D vwCl [(wPa y a eh we), (wAr y (a 2) 100 (uI hf x2 (jor (hf x2) (jshl 1 x1))))].flatten H := hP_
        have hD_ : va_D A [(wPa y a eh we), (wAr y (a 2) 100 (uI hf x2 (jor (hf x2) (jshl 1 x1))))].flatten := hD_
        exact hE_ _ _ _ _ _ h_ dX2_punch_26 hP_ hD_ hS_
  exact key_ _ (fun hf9 H locs pc ls h9_ hdg_ hP_ hD_ hS_ => by cases h9_; exact jend_v hx_ hb_ hr_ hlocks_ hP_ hD_ hS_ hdg_)
def rm_X2_perforate : Room := { frames := 4, cells := 0, slots := 0, locals := 87 }
set_option maxRecDepth 100000 in
set_option maxHeartbeats 8000000 in
theorem c_X2_perforate (l : Launch) (D : va_G) (y : Nat → ClassId) (z : Nat → Nat) (a : Nat → Nat) (b : Nat → Nat) (eh : Int → Int) (we : Int) (hf : Int → Int) (o_se : Int → Int) (o_tr : Int → Int) (o_fi : Int → Int) (o_la : Int → Int) (o_sh : Int → Int) (o_ac : Int → Int) (o_no : Int)  (fu : Nat) (q_eh : Int → Int) (q_we : Int) (q_hf : Int → Int) (h_ : f_X2_perforate fu eh we hf o_se o_tr o_fi o_la o_sh o_ac o_no = some (q_eh, q_we, q_hf)) : jCV l D y z yX2_perforate wsX2_perforate rm_X2_perforate [.ref (a 0), .ref (b 0)] [(wPa y a eh we), (wAr y (a 2) 100 hf), (wRo y b o_se o_tr o_fi o_la o_sh o_ac o_no)] [(wPa y a q_eh q_we), (wAr y (a 2) 100 q_hf), (wRo y b o_se o_tr o_fi o_la o_sh o_ac o_no)] := by
  intro sz
  refine jmet (Qc := (fun A => va_Qv (fun (_ : Unit) => True) (jB D A [(wPa y a q_eh q_we), (wAr y (a 2) 100 q_hf), (wRo y b o_se o_tr o_fi o_la o_sh o_ac o_no)]) A)) (cc := cX2_perforate) (maxL := 6) (ret := none) (own := RX2) (by decide) rfl (Nat.le_of_ble_eq_true rfl) rfl (fun p e s m R args below meth c A ls hR_ hargs_ hx_ hb_ hr_ hlocks_ hml_ hown_ hts_ hname_ hsz_ hP_ hD_ hA_ hM_ hl_ => ?_)
  have key_ : ∀ Q : State → Prop, (∀ (eh9 : Int → Int) (we9 : Int) (hf9 : Int → Int) (H : Heap) (locs : List Loc) (pc : Nat) (ls : Array Slot), some (eh9, we9, hf9) = some (q_eh, q_we, q_hf) → decode cX2_perforate pc = .ok (.return_, 1) → va_P D vwCl [(wPa y a eh9 we9), (wAr y (a 2) 100 hf9), (wRo y b o_se o_tr o_fi o_la o_sh o_ac o_no)].flatten H → va_D A [(wPa y a eh9 we9), (wAr y (a 2) 100 hf9), (wRo y b o_se o_tr o_fi o_la o_sh o_ac o_no)].flatten → va_S A s.heap H locs → W p l e R s m args below meth c H locs 0 0 Q (F0 m pc ls [])) → W p l e R s m args below meth c s.heap [] 0 0 Q (F0 m 0 ls []) := by
    intro Q hE_
    have hS_ : va_S A s.heap s.heap [] := va_S.rf
    have hl_ : lv_has ls 6 [(0, .ref (a 0)), (1, .ref (b 0))] := hl_
    have hin_ : ∀ w ∈ u_ws RX2 TX2 3, w ∈ wsX2_perforate := by decide +kernel
    unfold f_X2_perforate at h_
    refine lv_aload_n hx_ hb_ dX2_perforate_0 rfl (lv_at hl_ 0 rfl) ?_
    refine lv_aload_n hx_ hb_ dX2_perforate_1 rfl (lv_at hl_ 1 rfl) ?_
    refine lv_iconst (v := jI 3) hx_ hb_ dX2_perforate_2 (by decide +kernel) ?_
    obtain ⟨v1, hv1, h_⟩ := jb_i h_
    refine jx_cvi (wr := [(wPa y a eh we), (wAr y (a 2) 100 hf)]) (cw := [(wRo y b o_se o_tr o_fi o_la o_sh o_ac o_no)]) (cw1 := [(wRo y b o_se o_tr o_fi o_la o_sh o_ac o_no)]) (cs1 := [(wPa y a eh we), (wAr y (a 2) 100 hf), (wRo y b o_se o_tr o_fi o_la o_sh o_ac o_no)]) (As := [.int (jI 3)]) (rest := [.ref (a 0)]) ⟨hx_, hb_, hml_, hown_, hts_⟩ hM_ hP_ hD_ hS_ hA_ (jperm 3 [0, 1, 2] rfl (by decide) rfl) (jperm 3 [0, 1, 2] rfl (by decide) rfl) (c_X3_settingOf l D y z b o_se o_tr o_fi o_la o_sh o_ac o_no 3 fu v1 hv1) 1 gX2_perforate_X3_settingOf rfl ⟨rfl, rfl⟩ (by decide +kernel) ⟨by rw [hR_]; exact Nat.le_of_ble_eq_true rfl, by rw [hR_]; exact Nat.le_of_ble_eq_true rfl⟩ 0 3 rfl rfl rfl rfl rfl hl_.1 (Nat.le_of_ble_eq_true rfl) dX2_perforate_3 ⟨Nat.zero_le _, Nat.zero_le _⟩ (fun H locs hP_ hD_ hS_ => ?_)
    refine va_put (D := D) (ci := 2) (v := .int (jI v1)) (ty := .int) (C := RX2) (T := TX2) (N := 3) hx_ hb_ hts_ hin_ tyX2 tyX2_ok nmX2 hown_ hM_.1 hP_ hD_ hS_ 0 rfl rfl 2 (by decide) (hts_ (.fieldLink RX2 24 "MusicHoles$Paper" "weak" "I") (by decide +kernel)) (fun _ h9_ => h9_) rfl (by decide +kernel) rfl rfl (Nat.le_of_ble_eq_true rfl) dX2_perforate_6 (fun H locs hP_ hD_ hS_ => ?_)
    have hP_ : va_P D vwCl [(wPa y a eh v1), (wAr y (a 2) 100 hf), (wRo y b o_se o_tr o_fi o_la o_sh o_ac o_no)].flatten H := hP_
    have hD_ : va_D A [(wPa y a eh v1), (wAr y (a 2) 100 hf), (wRo y b o_se o_tr o_fi o_la o_sh o_ac o_no)].flatten := hD_
    refine lv_aload_n hx_ hb_ dX2_perforate_9 rfl (lv_at hl_ 0 rfl) ?_
    refine va_get (D := D) (ci := 2) (v := .ref (a 2)) (C := RX2) (T := TX2) (N := 3) hx_ hb_ hts_ hin_ hown_ hM_.1 hP_ 0 rfl rfl 0 (by decide) (hts_ (.fieldLink RX2 9 "MusicHoles$Paper" "holes" "[I") (by decide +kernel)) (fun _ h9_ => h9_) rfl dX2_perforate_10 ?_
    refine lv_iconst (v := jI 0) hx_ hb_ dX2_perforate_13 (by decide +kernel) ?_
    obtain ⟨q0f_m2, hq0f_m2, h_⟩ := jb_i h_
    refine jx_csv (b := 0) (C := "") (rv := 0) (wr := [(wPa y a eh v1), (wRo y b o_se o_tr o_fi o_la o_sh o_ac o_no)]) (cw := [(wAr y (a 2) 100 hf)]) (cw1 := [(wAr y (a 2) 100 q0f_m2)]) (cs1 := [(wPa y a eh v1), (wAr y (a 2) 100 q0f_m2), (wRo y b o_se o_tr o_fi o_la o_sh o_ac o_no)]) (As := [.ref (a 2), .int (jI 0)]) (rest := []) ⟨hx_, hb_, hml_, hown_, hts_⟩ hM_ hP_ hD_ hS_ hA_ (jperm 3 [0, 2, 1] rfl (by decide) rfl) (jperm 3 [0, 2, 1] rfl (by decide) rfl) (c_J7_fill_53178 l D y z (a 2) 100 (Nat.le_of_ble_eq_true rfl) hf 0 fu q0f_m2 hq0f_m2) 2 (va_cwS 2 hts_ gX2_perforate_J7_fill_53178 rfl rfl rfl (by decide +kernel) ⟨by rw [hR_]; exact Nat.le_of_ble_eq_true rfl, by rw [hR_]; exact Nat.le_of_ble_eq_true rfl⟩) rfl ⟨rfl, rfl⟩ ⟨by rw [hR_]; exact Nat.le_of_ble_eq_true rfl, by rw [hR_]; exact Nat.le_of_ble_eq_true rfl⟩ rfl rfl hl_.1 (Nat.le_of_ble_eq_true rfl) dX2_perforate_14 ⟨Nat.zero_le _, Nat.zero_le _⟩ (fun H locs hP_ hD_ hS_ => ?_)
    refine lv_iconst (v := jI 0) hx_ hb_ dX2_perforate_17 (by decide +kernel) ?_
    refine lv_istore_n (lv' := [(2, .int (jI 0)), (0, .ref (a 0)), (1, .ref (b 0))]) hx_ hb_ dX2_perforate_18 rfl hl_ (by decide) rfl (fun ls hl_ => ?_)
    have hX112 : ∀ (eh_m3 : Int → Int) (we_m4 : Int) (hf_m5 : Int → Int) (H : Heap) (locs : List Loc) (ls : Array Slot), f_X2_perforate_X112 fu o_se eh_m3 we_m4 hf_m5 = some (q_eh, q_we, q_hf) → va_P D vwCl [(wPa y a eh_m3 we_m4), (wAr y (a 2) 100 hf_m5), (wRo y b o_se o_tr o_fi o_la o_sh o_ac o_no)].flatten H → va_D A [(wPa y a eh_m3 we_m4), (wAr y (a 2) 100 hf_m5), (wRo y b o_se o_tr o_fi o_la o_sh o_ac o_no)].flatten → va_S A s.heap H locs → lv_has ls 6 [(0, .ref (a 0)), (1, .ref (b 0))] → W p l e R s m args below meth c H locs 0 0 Q (F0 m 112 ls []) := by
      intro eh_m3 we_m4 hf_m5 H locs ls h_ hP_ hD_ hS_ hl_
      unfold f_X2_perforate_X112 at h_
      refine lv_aload_n hx_ hb_ dX2_perforate_112 rfl (lv_at hl_ 0 rfl) ?_
      refine lv_aload_n hx_ hb_ dX2_perforate_113 rfl (lv_at hl_ 1 rfl) ?_
      refine lv_iconst (v := jI 2) hx_ hb_ dX2_perforate_114 (by decide +kernel) ?_
      obtain ⟨v6, hv6, h_⟩ := jb_i h_
      refine jx_cvi (wr := [(wPa y a eh_m3 we_m4), (wAr y (a 2) 100 hf_m5)]) (cw := [(wRo y b o_se o_tr o_fi o_la o_sh o_ac o_no)]) (cw1 := [(wRo y b o_se o_tr o_fi o_la o_sh o_ac o_no)]) (cs1 := [(wPa y a eh_m3 we_m4), (wAr y (a 2) 100 hf_m5), (wRo y b o_se o_tr o_fi o_la o_sh o_ac o_no)]) (As := [.int (jI 2)]) (rest := [.ref (a 0)]) ⟨hx_, hb_, hml_, hown_, hts_⟩ hM_ hP_ hD_ hS_ hA_ (jperm 3 [0, 1, 2] rfl (by decide) rfl) (jperm 3 [0, 1, 2] rfl (by decide) rfl) (c_X3_settingOf l D y z b o_se o_tr o_fi o_la o_sh o_ac o_no 2 fu v6 hv6) 1 gX2_perforate_X3_settingOf rfl ⟨rfl, rfl⟩ (by decide +kernel) ⟨by rw [hR_]; exact Nat.le_of_ble_eq_true rfl, by rw [hR_]; exact Nat.le_of_ble_eq_true rfl⟩ 0 3 rfl rfl rfl rfl rfl hl_.1 (Nat.le_of_ble_eq_true rfl) dX2_perforate_115 ⟨Nat.zero_le _, Nat.zero_le _⟩ (fun H locs hP_ hD_ hS_ => ?_)
      obtain ⟨eh_m7, heh_m7, h_⟩ := jb_i h_
      refine jx_cvv (rv := 0) (wr := [(wRo y b o_se o_tr o_fi o_la o_sh o_ac o_no)]) (cw := [(wPa y a eh_m3 we_m4), (wAr y (a 2) 100 hf_m5)]) (cw1 := [(wPa y a eh_m7 we_m4), (wAr y (a 2) 100 hf_m5)]) (cs1 := [(wPa y a eh_m7 we_m4), (wAr y (a 2) 100 hf_m5), (wRo y b o_se o_tr o_fi o_la o_sh o_ac o_no)]) (As := [.int (jI v6)]) (rest := []) ⟨hx_, hb_, hml_, hown_, hts_⟩ hM_ hP_ hD_ hS_ hA_ (jperm 3 [2, 0, 1] rfl (by decide) rfl) (jperm 3 [1, 2, 0] rfl (by decide) rfl) (c_X2_listen l D y z a eh_m3 we_m4 hf_m5 v6 fu eh_m7 heh_m7) 1 gX2_perforate_X2_listen rfl ⟨rfl, rfl⟩ (by decide +kernel) ⟨by rw [hR_]; exact Nat.le_of_ble_eq_true rfl, by rw [hR_]; exact Nat.le_of_ble_eq_true rfl⟩ 0 2 rfl rfl rfl rfl rfl hl_.1 (Nat.le_of_ble_eq_true rfl) dX2_perforate_118 ⟨Nat.zero_le _, Nat.zero_le _⟩ (fun H locs hP_ hD_ hS_ => ?_)
      exact hE_ _ _ _ _ _ _ _ h_ dX2_perforate_121 hP_ hD_ hS_
    have hL19 : ∀ n19 : Nat, ∀ (eh_m8 : Int → Int) (we_m9 : Int) (hf_m10 : Int → Int) (v11 : Int) (H : Heap) (locs : List Loc) (ls : Array Slot), f_X2_perforate_L19 fu o_se o_tr o_fi o_la o_sh o_ac o_no (f_X2_perforate_X112 fu o_se) n19 eh_m8 we_m9 hf_m10 v11 = some (q_eh, q_we, q_hf) → va_P D vwCl [(wPa y a eh_m8 we_m9), (wAr y (a 2) 100 hf_m10), (wRo y b o_se o_tr o_fi o_la o_sh o_ac o_no)].flatten H → va_D A [(wPa y a eh_m8 we_m9), (wAr y (a 2) 100 hf_m10), (wRo y b o_se o_tr o_fi o_la o_sh o_ac o_no)].flatten → va_S A s.heap H locs → lv_has ls 6 [(0, .ref (a 0)), (1, .ref (b 0)), (2, .int (jI v11))] → W p l e R s m args below meth c H locs 0 0 Q (F0 m 19 ls []) := by
      intro n19
      induction n19 with
      | zero => intro _ _ _ _ H locs ls h_; have h_ : (none : Option ((Int → Int) × Int × (Int → Int))) = some (q_eh, q_we, q_hf) := h_; cases h_
      | succ n19 ih19 =>
        intro eh_m8 we_m9 hf_m10 v11 H locs ls h_ hP_ hD_ hS_ hl_
        replace h_ : f_X2_perforate_L19_b fu o_se o_tr o_fi o_la o_sh o_ac o_no (f_X2_perforate_X112 fu o_se) (f_X2_perforate_L19 fu o_se o_tr o_fi o_la o_sh o_ac o_no (f_X2_perforate_X112 fu o_se) n19) eh_m8 we_m9 hf_m10 v11 = some (q_eh, q_we, q_hf) := h_
        unfold f_X2_perforate_L19_b at h_
        refine lv_iload_n hx_ hb_ dX2_perforate_19 rfl (lv_at hl_ 2 rfl) ?_
        refine lv_aload_n hx_ hb_ dX2_perforate_20 rfl (lv_at hl_ 1 rfl) ?_
        obtain ⟨v12, hv12, h_⟩ := jb_i h_
        refine jx_cvi (wr := [(wPa y a eh_m8 we_m9), (wAr y (a 2) 100 hf_m10)]) (cw := [(wRo y b o_se o_tr o_fi o_la o_sh o_ac o_no)]) (cw1 := [(wRo y b o_se o_tr o_fi o_la o_sh o_ac o_no)]) (cs1 := [(wPa y a eh_m8 we_m9), (wAr y (a 2) 100 hf_m10), (wRo y b o_se o_tr o_fi o_la o_sh o_ac o_no)]) (As := []) (rest := [.int (jI v11)]) ⟨hx_, hb_, hml_, hown_, hts_⟩ hM_ hP_ hD_ hS_ hA_ (jperm 3 [0, 1, 2] rfl (by decide) rfl) (jperm 3 [0, 1, 2] rfl (by decide) rfl) (c_X3_size l D y z b o_se o_tr o_fi o_la o_sh o_ac o_no fu v12 hv12) 0 gX2_perforate_X3_size rfl ⟨rfl, rfl⟩ (by decide +kernel) ⟨by rw [hR_]; exact Nat.le_of_ble_eq_true rfl, by rw [hR_]; exact Nat.le_of_ble_eq_true rfl⟩ 0 3 rfl rfl rfl rfl rfl hl_.1 (Nat.le_of_ble_eq_true rfl) dX2_perforate_21 ⟨Nat.zero_le _, Nat.zero_le _⟩ (fun H locs hP_ hD_ hS_ => ?_)
        refine jx_icmp_ge (tgt := 112) hx_ hb_ h_ dX2_perforate_24 (by decide) (fun h_ => ?_) (fun h_ => ?_)
        · exact hX112 _ _ _ _ _ ls h_ hP_ hD_ hS_ (lv_sub hl_ [0, 1] rfl)
        · refine lv_aload_n hx_ hb_ dX2_perforate_27 rfl (lv_at hl_ 1 rfl) ?_
          refine lv_iload_n hx_ hb_ dX2_perforate_28 rfl (lv_at hl_ 2 rfl) ?_
          obtain ⟨v13, hv13, h_⟩ := jb_i h_
          refine jx_cvi (wr := [(wPa y a eh_m8 we_m9), (wAr y (a 2) 100 hf_m10)]) (cw := [(wRo y b o_se o_tr o_fi o_la o_sh o_ac o_no)]) (cw1 := [(wRo y b o_se o_tr o_fi o_la o_sh o_ac o_no)]) (cs1 := [(wPa y a eh_m8 we_m9), (wAr y (a 2) 100 hf_m10), (wRo y b o_se o_tr o_fi o_la o_sh o_ac o_no)]) (As := [.int (jI v11)]) (rest := []) ⟨hx_, hb_, hml_, hown_, hts_⟩ hM_ hP_ hD_ hS_ hA_ (jperm 3 [0, 1, 2] rfl (by decide) rfl) (jperm 3 [0, 1, 2] rfl (by decide) rfl) (c_X3_trackOf l D y z b o_se o_tr o_fi o_la o_sh o_ac o_no v11 fu v13 hv13) 1 gX2_perforate_X3_trackOf rfl ⟨rfl, rfl⟩ (by decide +kernel) ⟨by rw [hR_]; exact Nat.le_of_ble_eq_true rfl, by rw [hR_]; exact Nat.le_of_ble_eq_true rfl⟩ 0 3 rfl rfl rfl rfl rfl hl_.1 (Nat.le_of_ble_eq_true rfl) dX2_perforate_29 ⟨Nat.zero_le _, Nat.zero_le _⟩ (fun H locs hP_ hD_ hS_ => ?_)
          refine lv_istore_n (lv' := [(3, .int (jI v13)), (0, .ref (a 0)), (1, .ref (b 0)), (2, .int (jI v11))]) hx_ hb_ dX2_perforate_32 rfl hl_ (by decide) rfl (fun ls hl_ => ?_)
          refine lv_aload_n hx_ hb_ dX2_perforate_33 rfl (lv_at hl_ 2 rfl) ?_
          refine lv_iload_n hx_ hb_ dX2_perforate_34 rfl (lv_at hl_ 3 rfl) ?_
          obtain ⟨v14, hv14, h_⟩ := jb_i h_
          refine jx_cvi (wr := [(wPa y a eh_m8 we_m9), (wAr y (a 2) 100 hf_m10)]) (cw := [(wRo y b o_se o_tr o_fi o_la o_sh o_ac o_no)]) (cw1 := [(wRo y b o_se o_tr o_fi o_la o_sh o_ac o_no)]) (cs1 := [(wPa y a eh_m8 we_m9), (wAr y (a 2) 100 hf_m10), (wRo y b o_se o_tr o_fi o_la o_sh o_ac o_no)]) (As := [.int (jI v11)]) (rest := []) ⟨hx_, hb_, hml_, hown_, hts_⟩ hM_ hP_ hD_ hS_ hA_ (jperm 3 [0, 1, 2] rfl (by decide) rfl) (jperm 3 [0, 1, 2] rfl (by decide) rfl) (c_X3_firstOf l D y z b o_se o_tr o_fi o_la o_sh o_ac o_no v11 fu v14 hv14) 1 gX2_perforate_X3_firstOf rfl ⟨rfl, rfl⟩ (by decide +kernel) ⟨by rw [hR_]; exact Nat.le_of_ble_eq_true rfl, by rw [hR_]; exact Nat.le_of_ble_eq_true rfl⟩ 0 3 rfl rfl rfl rfl rfl hl_.1 (Nat.le_of_ble_eq_true rfl) dX2_perforate_35 ⟨Nat.zero_le _, Nat.zero_le _⟩ (fun H locs hP_ hD_ hS_ => ?_)
          refine lv_istore (lv' := [(4, .int (jI v14)), (3, .int (jI v13)), (0, .ref (a 0)), (1, .ref (b 0)), (2, .int (jI v11))]) hx_ hb_ dX2_perforate_38 hl_ (by decide) rfl (fun ls hl_ => ?_)
          refine lv_iload hx_ hb_ dX2_perforate_40 (lv_at hl_ 0 rfl) ?_
          refine lv_istore (lv' := [(5, .int (jI v14)), (4, .int (jI v14)), (3, .int (jI v13)), (0, .ref (a 0)), (1, .ref (b 0)), (2, .int (jI v11))]) hx_ hb_ dX2_perforate_42 hl_ (by decide) rfl (fun ls hl_ => ?_)
          have hX77 : ∀ (eh_m15 : Int → Int) (we_m16 : Int) (hf_m17 : Int → Int) (H : Heap) (locs : List Loc) (ls : Array Slot), f_X2_perforate_X77 fu o_ac o_no v11 v13 v14 (f_X2_perforate_L19 fu o_se o_tr o_fi o_la o_sh o_ac o_no (f_X2_perforate_X112 fu o_se) n19) eh_m15 we_m16 hf_m17 = some (q_eh, q_we, q_hf) → va_P D vwCl [(wPa y a eh_m15 we_m16), (wAr y (a 2) 100 hf_m17), (wRo y b o_se o_tr o_fi o_la o_sh o_ac o_no)].flatten H → va_D A [(wPa y a eh_m15 we_m16), (wAr y (a 2) 100 hf_m17), (wRo y b o_se o_tr o_fi o_la o_sh o_ac o_no)].flatten → va_S A s.heap H locs → lv_has ls 6 [(0, .ref (a 0)), (1, .ref (b 0)), (2, .int (jI v11)), (3, .int (jI v13)), (4, .int (jI v14))] → W p l e R s m args below meth c H locs 0 0 Q (F0 m 77 ls []) := by
            intro eh_m15 we_m16 hf_m17 H locs ls h_ hP_ hD_ hS_ hl_
            unfold f_X2_perforate_X77 at h_
            refine lv_aload_n hx_ hb_ dX2_perforate_77 rfl (lv_at hl_ 1 rfl) ?_
            refine lv_iload_n hx_ hb_ dX2_perforate_78 rfl (lv_at hl_ 2 rfl) ?_
            obtain ⟨v18, hv18, h_⟩ := jb_i h_
            refine jx_cvi (wr := [(wPa y a eh_m15 we_m16), (wAr y (a 2) 100 hf_m17)]) (cw := [(wRo y b o_se o_tr o_fi o_la o_sh o_ac o_no)]) (cw1 := [(wRo y b o_se o_tr o_fi o_la o_sh o_ac o_no)]) (cs1 := [(wPa y a eh_m15 we_m16), (wAr y (a 2) 100 hf_m17), (wRo y b o_se o_tr o_fi o_la o_sh o_ac o_no)]) (As := [.int (jI v11)]) (rest := []) ⟨hx_, hb_, hml_, hown_, hts_⟩ hM_ hP_ hD_ hS_ hA_ (jperm 3 [0, 1, 2] rfl (by decide) rfl) (jperm 3 [0, 1, 2] rfl (by decide) rfl) (c_X3_hasAccent l D y z b o_se o_tr o_fi o_la o_sh o_ac o_no v11 fu v18 hv18) 1 gX2_perforate_X3_hasAccent rfl ⟨rfl, rfl⟩ (by decide +kernel) ⟨by rw [hR_]; exact Nat.le_of_ble_eq_true rfl, by rw [hR_]; exact Nat.le_of_ble_eq_true rfl⟩ 0 3 rfl rfl rfl rfl rfl hl_.1 (Nat.le_of_ble_eq_true rfl) dX2_perforate_79 ⟨Nat.zero_le _, Nat.zero_le _⟩ (fun H locs hP_ hD_ hS_ => ?_)
            refine jx_if_eq (tgt := 106) hx_ hb_ h_ dX2_perforate_82 (by decide) (fun h_ => ?_) (fun h_ => ?_)
            · refine lv_iinc (v := jI (v11 + 1)) (lv' := [(2, .int (jI (v11 + 1))), (0, .ref (a 0)), (1, .ref (b 0)), (3, .int (jI v13)), (4, .int (jI v14))]) hx_ hb_ dX2_perforate_106 hl_ (k := 2) rfl (jI_add _ _) (by decide) rfl (fun ls hl_ => ?_)
              refine lv_goto (tgt := 19) hx_ hb_ dX2_perforate_109 (by decide) ?_
              exact ih19 _ _ _ _ _ _ ls h_ hP_ hD_ hS_ (lv_sub hl_ [1, 2, 0] rfl)
            · refine lv_aload_n hx_ hb_ dX2_perforate_85 rfl (lv_at hl_ 0 rfl) ?_
              refine lv_iload_n hx_ hb_ dX2_perforate_86 rfl (lv_at hl_ 3 rfl) ?_
              refine lv_bipush (v := jI 11) hx_ hb_ dX2_perforate_87 (by decide +kernel) ?_
              have hJ101 : ∀ (v19 : Int) (H : Heap) (locs : List Loc) (ls : Array Slot), f_X2_perforate_J101 fu v11 v14 eh_m15 we_m16 hf_m17 (f_X2_perforate_L19 fu o_se o_tr o_fi o_la o_sh o_ac o_no (f_X2_perforate_X112 fu o_se) n19) v19 = some (q_eh, q_we, q_hf) → va_P D vwCl [(wPa y a eh_m15 we_m16), (wAr y (a 2) 100 hf_m17), (wRo y b o_se o_tr o_fi o_la o_sh o_ac o_no)].flatten H → va_D A [(wPa y a eh_m15 we_m16), (wAr y (a 2) 100 hf_m17), (wRo y b o_se o_tr o_fi o_la o_sh o_ac o_no)].flatten → va_S A s.heap H locs → lv_has ls 6 [(0, .ref (a 0)), (1, .ref (b 0)), (2, .int (jI v11)), (4, .int (jI v14))] → W p l e R s m args below meth c H locs 0 0 Q (F0 m 101 ls [.int (jI v19), .ref (a 0)]) := by
                intro v19 H locs ls h_ hP_ hD_ hS_ hl_
                unfold f_X2_perforate_J101 at h_
                refine lv_iload hx_ hb_ dX2_perforate_101 (lv_at hl_ 3 rfl) ?_
                obtain ⟨hf_m20, hhf_m20, h_⟩ := jb_i h_
                refine jx_cvv (rv := 0) (wr := [(wRo y b o_se o_tr o_fi o_la o_sh o_ac o_no)]) (cw := [(wPa y a eh_m15 we_m16), (wAr y (a 2) 100 hf_m17)]) (cw1 := [(wPa y a eh_m15 we_m16), (wAr y (a 2) 100 hf_m20)]) (cs1 := [(wPa y a eh_m15 we_m16), (wAr y (a 2) 100 hf_m20), (wRo y b o_se o_tr o_fi o_la o_sh o_ac o_no)]) (As := [.int (jI v19), .int (jI v14)]) (rest := []) ⟨hx_, hb_, hml_, hown_, hts_⟩ hM_ hP_ hD_ hS_ hA_ (jperm 3 [2, 0, 1] rfl (by decide) rfl) (jperm 3 [1, 2, 0] rfl (by decide) rfl) (c_X2_punch l D y z a eh_m15 we_m16 hf_m17 v19 v14 fu hf_m20 hhf_m20) 2 gX2_perforate_X2_punch rfl ⟨rfl, rfl⟩ (by decide +kernel) ⟨by rw [hR_]; exact Nat.le_of_ble_eq_true rfl, by rw [hR_]; exact Nat.le_of_ble_eq_true rfl⟩ 0 2 rfl rfl rfl rfl rfl hl_.1 (Nat.le_of_ble_eq_true rfl) dX2_perforate_103 ⟨Nat.zero_le _, Nat.zero_le _⟩ (fun H locs hP_ hD_ hS_ => ?_)
                refine lv_iinc (v := jI (v11 + 1)) (lv' := [(2, .int (jI (v11 + 1))), (0, .ref (a 0)), (1, .ref (b 0)), (4, .int (jI v14))]) hx_ hb_ dX2_perforate_106 hl_ (k := 2) rfl (jI_add _ _) (by decide) rfl (fun ls hl_ => ?_)
                refine lv_goto (tgt := 19) hx_ hb_ dX2_perforate_109 (by decide) ?_
                exact ih19 _ _ _ _ _ _ ls h_ hP_ hD_ hS_ (lv_sub hl_ [1, 2, 0] rfl)
              refine jx_icmp_ne (tgt := 98) hx_ hb_ h_ dX2_perforate_89 (by decide) (fun h_ => ?_) (fun h_ => ?_)
              · refine lv_iload_n hx_ hb_ dX2_perforate_98 rfl (lv_at hl_ 3 rfl) ?_
                refine lv_iconst (v := jI 1) hx_ hb_ dX2_perforate_99 (by decide +kernel) ?_
                refine jx_iadd hx_ hb_ dX2_perforate_100 ?_
                exact hJ101 _ _ _ ls h_ hP_ hD_ hS_ (lv_sub hl_ [0, 1, 2, 4] rfl)
              · refine lv_iload_n hx_ hb_ dX2_perforate_92 rfl (lv_at hl_ 3 rfl) ?_
                refine lv_iconst (v := jI 1) hx_ hb_ dX2_perforate_93 (by decide +kernel) ?_
                refine jx_isub hx_ hb_ dX2_perforate_94 ?_
                refine lv_goto (tgt := 101) hx_ hb_ dX2_perforate_95 (by decide) ?_
                exact hJ101 _ _ _ ls h_ hP_ hD_ hS_ (lv_sub hl_ [0, 1, 2, 4] rfl)
          have hL44 : ∀ n44 : Nat, ∀ (eh_m21 : Int → Int) (we_m22 : Int) (hf_m23 : Int → Int) (v24 : Int) (H : Heap) (locs : List Loc) (ls : Array Slot), f_X2_perforate_L44 fu o_se o_fi o_la o_sh o_no v11 v13 (f_X2_perforate_X77 fu o_ac o_no v11 v13 v14 (f_X2_perforate_L19 fu o_se o_tr o_fi o_la o_sh o_ac o_no (f_X2_perforate_X112 fu o_se) n19)) n44 eh_m21 we_m22 hf_m23 v24 = some (q_eh, q_we, q_hf) → va_P D vwCl [(wPa y a eh_m21 we_m22), (wAr y (a 2) 100 hf_m23), (wRo y b o_se o_tr o_fi o_la o_sh o_ac o_no)].flatten H → va_D A [(wPa y a eh_m21 we_m22), (wAr y (a 2) 100 hf_m23), (wRo y b o_se o_tr o_fi o_la o_sh o_ac o_no)].flatten → va_S A s.heap H locs → lv_has ls 6 [(0, .ref (a 0)), (1, .ref (b 0)), (2, .int (jI v11)), (3, .int (jI v13)), (4, .int (jI v14)), (5, .int (jI v24))] → W p l e R s m args below meth c H locs 0 0 Q (F0 m 44 ls []) := by
            intro n44
            induction n44 with
            | zero => intro _ _ _ _ H locs ls h_; have h_ : (none : Option ((Int → Int) × Int × (Int → Int))) = some (q_eh, q_we, q_hf) := h_; cases h_
            | succ n44 ih44 =>
              intro eh_m21 we_m22 hf_m23 v24 H locs ls h_ hP_ hD_ hS_ hl_
              replace h_ : f_X2_perforate_L44_b fu o_se o_fi o_la o_sh o_no v11 v13 (f_X2_perforate_X77 fu o_ac o_no v11 v13 v14 (f_X2_perforate_L19 fu o_se o_tr o_fi o_la o_sh o_ac o_no (f_X2_perforate_X112 fu o_se) n19)) (f_X2_perforate_L44 fu o_se o_fi o_la o_sh o_no v11 v13 (f_X2_perforate_X77 fu o_ac o_no v11 v13 v14 (f_X2_perforate_L19 fu o_se o_tr o_fi o_la o_sh o_ac o_no (f_X2_perforate_X112 fu o_se) n19)) n44) eh_m21 we_m22 hf_m23 v24 = some (q_eh, q_we, q_hf) := h_
              unfold f_X2_perforate_L44_b at h_
              refine lv_iload hx_ hb_ dX2_perforate_44 (lv_at hl_ 5 rfl) ?_
              refine lv_aload_n hx_ hb_ dX2_perforate_46 rfl (lv_at hl_ 1 rfl) ?_
              refine lv_iload_n hx_ hb_ dX2_perforate_47 rfl (lv_at hl_ 2 rfl) ?_
              obtain ⟨v25, hv25, h_⟩ := jb_i h_
              refine jx_cvi (wr := [(wPa y a eh_m21 we_m22), (wAr y (a 2) 100 hf_m23)]) (cw := [(wRo y b o_se o_tr o_fi o_la o_sh o_ac o_no)]) (cw1 := [(wRo y b o_se o_tr o_fi o_la o_sh o_ac o_no)]) (cs1 := [(wPa y a eh_m21 we_m22), (wAr y (a 2) 100 hf_m23), (wRo y b o_se o_tr o_fi o_la o_sh o_ac o_no)]) (As := [.int (jI v11)]) (rest := [.int (jI v24)]) ⟨hx_, hb_, hml_, hown_, hts_⟩ hM_ hP_ hD_ hS_ hA_ (jperm 3 [0, 1, 2] rfl (by decide) rfl) (jperm 3 [0, 1, 2] rfl (by decide) rfl) (c_X3_lastOf l D y z b o_se o_tr o_fi o_la o_sh o_ac o_no v11 fu v25 hv25) 1 gX2_perforate_X3_lastOf rfl ⟨rfl, rfl⟩ (by decide +kernel) ⟨by rw [hR_]; exact Nat.le_of_ble_eq_true rfl, by rw [hR_]; exact Nat.le_of_ble_eq_true rfl⟩ 0 3 rfl rfl rfl rfl rfl hl_.1 (Nat.le_of_ble_eq_true rfl) dX2_perforate_48 ⟨Nat.zero_le _, Nat.zero_le _⟩ (fun H locs hP_ hD_ hS_ => ?_)
              refine jx_icmp_gt (tgt := 77) hx_ hb_ h_ dX2_perforate_51 (by decide) (fun h_ => ?_) (fun h_ => ?_)
              · exact hX77 _ _ _ _ _ ls h_ hP_ hD_ hS_ (lv_sub hl_ [0, 1, 2, 3, 4] rfl)
              · refine lv_aload_n hx_ hb_ dX2_perforate_54 rfl (lv_at hl_ 1 rfl) ?_
                refine lv_iload_n hx_ hb_ dX2_perforate_55 rfl (lv_at hl_ 2 rfl) ?_
                refine lv_iload hx_ hb_ dX2_perforate_56 (lv_at hl_ 5 rfl) ?_
                obtain ⟨v26, hv26, h_⟩ := jb_i h_
                refine jx_cvi (wr := [(wPa y a eh_m21 we_m22), (wAr y (a 2) 100 hf_m23)]) (cw := [(wRo y b o_se o_tr o_fi o_la o_sh o_ac o_no)]) (cw1 := [(wRo y b o_se o_tr o_fi o_la o_sh o_ac o_no)]) (cs1 := [(wPa y a eh_m21 we_m22), (wAr y (a 2) 100 hf_m23), (wRo y b o_se o_tr o_fi o_la o_sh o_ac o_no)]) (As := [.int (jI v11), .int (jI v24)]) (rest := []) ⟨hx_, hb_, hml_, hown_, hts_⟩ hM_ hP_ hD_ hS_ hA_ (jperm 3 [0, 1, 2] rfl (by decide) rfl) (jperm 3 [0, 1, 2] rfl (by decide) rfl) (c_X3_isHole l D y z b o_se o_tr o_fi o_la o_sh o_ac o_no v11 v24 fu v26 hv26) 2 gX2_perforate_X3_isHole rfl ⟨rfl, rfl⟩ (by decide +kernel) ⟨by rw [hR_]; exact Nat.le_of_ble_eq_true rfl, by rw [hR_]; exact Nat.le_of_ble_eq_true rfl⟩ 0 3 rfl rfl rfl rfl rfl hl_.1 (Nat.le_of_ble_eq_true rfl) dX2_perforate_58 ⟨Nat.zero_le _, Nat.zero_le _⟩ (fun H locs hP_ hD_ hS_ => ?_)
                refine jx_if_eq (tgt := 71) hx_ hb_ h_ dX2_perforate_61 (by decide) (fun h_ => ?_) (fun h_ => ?_)
                · refine lv_iinc (v := jI (v24 + 1)) (lv' := [(5, .int (jI (v24 + 1))), (0, .ref (a 0)), (1, .ref (b 0)), (2, .int (jI v11)), (3, .int (jI v13)), (4, .int (jI v14))]) hx_ hb_ dX2_perforate_71 hl_ (k := 5) rfl (jI_add _ _) (by decide) rfl (fun ls hl_ => ?_)
                  refine lv_goto (tgt := 44) hx_ hb_ dX2_perforate_74 (by decide) ?_
                  exact ih44 _ _ _ _ _ _ ls h_ hP_ hD_ hS_ (lv_sub hl_ [1, 2, 3, 4, 5, 0] rfl)
                · refine lv_aload_n hx_ hb_ dX2_perforate_64 rfl (lv_at hl_ 0 rfl) ?_
                  refine lv_iload_n hx_ hb_ dX2_perforate_65 rfl (lv_at hl_ 3 rfl) ?_
                  refine lv_iload hx_ hb_ dX2_perforate_66 (lv_at hl_ 5 rfl) ?_
                  obtain ⟨hf_m27, hhf_m27, h_⟩ := jb_i h_
                  refine jx_cvv (rv := 0) (wr := [(wRo y b o_se o_tr o_fi o_la o_sh o_ac o_no)]) (cw := [(wPa y a eh_m21 we_m22), (wAr y (a 2) 100 hf_m23)]) (cw1 := [(wPa y a eh_m21 we_m22), (wAr y (a 2) 100 hf_m27)]) (cs1 := [(wPa y a eh_m21 we_m22), (wAr y (a 2) 100 hf_m27), (wRo y b o_se o_tr o_fi o_la o_sh o_ac o_no)]) (As := [.int (jI v13), .int (jI v24)]) (rest := []) ⟨hx_, hb_, hml_, hown_, hts_⟩ hM_ hP_ hD_ hS_ hA_ (jperm 3 [2, 0, 1] rfl (by decide) rfl) (jperm 3 [1, 2, 0] rfl (by decide) rfl) (c_X2_punch l D y z a eh_m21 we_m22 hf_m23 v13 v24 fu hf_m27 hhf_m27) 2 gX2_perforate_X2_punch rfl ⟨rfl, rfl⟩ (by decide +kernel) ⟨by rw [hR_]; exact Nat.le_of_ble_eq_true rfl, by rw [hR_]; exact Nat.le_of_ble_eq_true rfl⟩ 0 2 rfl rfl rfl rfl rfl hl_.1 (Nat.le_of_ble_eq_true rfl) dX2_perforate_68 ⟨Nat.zero_le _, Nat.zero_le _⟩ (fun H locs hP_ hD_ hS_ => ?_)
                  refine lv_iinc (v := jI (v24 + 1)) (lv' := [(5, .int (jI (v24 + 1))), (0, .ref (a 0)), (1, .ref (b 0)), (2, .int (jI v11)), (3, .int (jI v13)), (4, .int (jI v14))]) hx_ hb_ dX2_perforate_71 hl_ (k := 5) rfl (jI_add _ _) (by decide) rfl (fun ls hl_ => ?_)
                  refine lv_goto (tgt := 44) hx_ hb_ dX2_perforate_74 (by decide) ?_
                  exact ih44 _ _ _ _ _ _ ls h_ hP_ hD_ hS_ (lv_sub hl_ [1, 2, 3, 4, 5, 0] rfl)
          exact hL44 fu _ _ _ _ _ _ ls h_ hP_ hD_ hS_ (lv_sub hl_ [3, 4, 5, 2, 1, 0] rfl)
    exact hL19 fu _ _ _ _ _ _ ls h_ hP_ hD_ hS_ (lv_sub hl_ [1, 2, 0] rfl)
  exact key_ _ (fun eh9 we9 hf9 H locs pc ls h9_ hdg_ hP_ hD_ hS_ => by cases h9_; exact jend_v hx_ hb_ hr_ hlocks_ hP_ hD_ hS_ hdg_)
def rm_X2_heardAt : Room := { frames := 2, cells := 0, slots := 0, locals := 42 }
set_option maxRecDepth 100000 in
set_option maxHeartbeats 8000000 in
theorem c_X2_heardAt (l : Launch) (D : va_G) (y : Nat → ClassId) (z : Nat → Nat) (a : Nat → Nat) (eh : Int → Int) (we : Int) (hf : Int → Int) (x1 : Int) (fu : Nat) (rr : Int) (h_ : f_X2_heardAt fu eh x1 = some rr) : jCI l D y z yX2_heardAt wsX2_heardAt rm_X2_heardAt [.ref (a 0), .int (jI x1)] [(wPa y a eh we), (wAr y (a 2) 100 hf)] [(wPa y a eh we), (wAr y (a 2) 100 hf)] rr := by
  intro sz
  refine jmet (Qc := (fun A => va_Qi (fun v (_ : Unit) => v = jI rr) (jB D A [(wPa y a eh we), (wAr y (a 2) 100 hf)]) A)) (cc := cX2_heardAt) (maxL := 2) (ret := (some .int)) (own := RX2) (by decide) rfl (Nat.le_of_ble_eq_true rfl) rfl (fun p e s m R args below meth c A ls hR_ hargs_ hx_ hb_ hr_ hlocks_ hml_ hown_ hts_ hname_ hsz_ hP_ hD_ hA_ hM_ hl_ => ?_)
  have key_ : ∀ Q : State → Prop, (∀ (v9 : Int) (H : Heap) (locs : List Loc) (pc : Nat) (ls : Array Slot), some v9 = some rr → decode cX2_heardAt pc = .ok (.ireturn, 1) → va_P D vwCl [(wPa y a eh we), (wAr y (a 2) 100 hf)].flatten H → va_D A [(wPa y a eh we), (wAr y (a 2) 100 hf)].flatten → va_S A s.heap H locs → W p l e R s m args below meth c H locs 0 0 Q (F0 m pc ls [.int (jI v9)])) → W p l e R s m args below meth c s.heap [] 0 0 Q (F0 m 0 ls []) := by
    intro Q hE_
    have hS_ : va_S A s.heap s.heap [] := va_S.rf
    have hl_ : lv_has ls 2 [(0, .ref (a 0)), (1, .int (jI x1))] := hl_
    have hin_ : ∀ w ∈ u_ws RX2 TX2 3, w ∈ wsX2_heardAt := by decide +kernel
    unfold f_X2_heardAt at h_
    refine lv_iload_n hx_ hb_ dX2_heardAt_0 rfl (lv_at hl_ 1 rfl) ?_
    obtain ⟨v1, hv1, h_⟩ := jb_i h_
    refine jx_cni (ws1 := []) (As := [.int (jI x1)]) (rest := []) ⟨hx_, hb_, hml_, hown_, hts_⟩ hM_ hP_ hD_ hS_ hA_ (c_X4_isStep l D y z x1 fu v1 hv1) 1 ⟨va_cnB 1 hts_ gX2_heardAt_X4_isStep_n66 rfl rfl rfl hM_.2.1.2.2.2.1 (hts_ (.initialized RX4) (by decide +kernel)) (by decide +kernel) ⟨by rw [hR_]; exact Nat.le_of_ble_eq_true rfl, by rw [hR_]; exact Nat.le_of_ble_eq_true rfl⟩, hts_ (.static yX4_isStep) (by decide +kernel), trivial⟩ rfl rfl hl_.1 (Nat.le_of_ble_eq_true rfl) dX2_heardAt_1 ⟨Nat.zero_le _, Nat.zero_le _⟩ (fun H locs hP_ hD_ hS_ => ?_)
    refine jx_if_eq (tgt := 16) hx_ hb_ h_ dX2_heardAt_4 (by decide) (fun h_ => ?_) (fun h_ => ?_)
    · refine lv_iconst (v := jI 0) hx_ hb_ dX2_heardAt_16 (by decide +kernel) ?_
      exact hE_ _ _ _ _ _ h_ dX2_heardAt_17 hP_ hD_ hS_
    · refine lv_aload_n hx_ hb_ dX2_heardAt_7 rfl (lv_at hl_ 0 rfl) ?_
      refine va_get (D := D) (ci := 2) (v := .ref (a 1)) (C := RX2) (T := TX2) (N := 3) hx_ hb_ hts_ hin_ hown_ hM_.1 hP_ 0 rfl rfl 1 (by decide) (hts_ (.fieldLink RX2 15 "MusicHoles$Paper" "heard" "[I") (by decide +kernel)) (fun _ h9_ => h9_) rfl dX2_heardAt_8 ?_
      refine lv_iload_n hx_ hb_ dX2_heardAt_11 rfl (lv_at hl_ 1 rfl) ?_
      refine jx_iald hx_ hb_ hM_ hP_ 1 0 rfl rfl rfl (Nat.le_of_ble_eq_true rfl) h_ dX2_heardAt_12 (fun h_ => ?_)
      refine lv_goto (tgt := 17) hx_ hb_ dX2_heardAt_13 (by decide) ?_
      exact hE_ _ _ _ _ _ h_ dX2_heardAt_17 hP_ hD_ hS_
  exact key_ _ (fun v9 H locs pc ls h9_ hdg_ hP_ hD_ hS_ => by cases h9_; exact jend_i hx_ hb_ hr_ hlocks_ hP_ hD_ hS_ hdg_)
def rm_X2_isHeard : Room := { frames := 3, cells := 0, slots := 0, locals := 63 }
set_option maxRecDepth 100000 in
set_option maxHeartbeats 8000000 in
theorem c_X2_isHeard (l : Launch) (D : va_G) (y : Nat → ClassId) (z : Nat → Nat) (a : Nat → Nat) (eh : Int → Int) (we : Int) (hf : Int → Int) (x1 : Int) (x2 : Int) (fu : Nat) (rr : Int) (h_ : f_X2_isHeard fu eh x1 x2 = some rr) : jCI l D y z yX2_isHeard wsX2_isHeard rm_X2_isHeard [.ref (a 0), .int (jI x1), .int (jI x2)] [(wPa y a eh we), (wAr y (a 2) 100 hf)] [(wPa y a eh we), (wAr y (a 2) 100 hf)] rr := by
  intro sz
  refine jmet (Qc := (fun A => va_Qi (fun v (_ : Unit) => v = jI rr) (jB D A [(wPa y a eh we), (wAr y (a 2) 100 hf)]) A)) (cc := cX2_isHeard) (maxL := 3) (ret := (some .boolean)) (own := RX2) (by decide) rfl (Nat.le_of_ble_eq_true rfl) rfl (fun p e s m R args below meth c A ls hR_ hargs_ hx_ hb_ hr_ hlocks_ hml_ hown_ hts_ hname_ hsz_ hP_ hD_ hA_ hM_ hl_ => ?_)
  have key_ : ∀ Q : State → Prop, (∀ (v9 : Int) (H : Heap) (locs : List Loc) (pc : Nat) (ls : Array Slot), some v9 = some rr → (v9 = 0 ∨ v9 = 1) → decode cX2_isHeard pc = .ok (.ireturn, 1) → va_P D vwCl [(wPa y a eh we), (wAr y (a 2) 100 hf)].flatten H → va_D A [(wPa y a eh we), (wAr y (a 2) 100 hf)].flatten → va_S A s.heap H locs → W p l e R s m args below meth c H locs 0 0 Q (F0 m pc ls [.int (jI v9)])) → W p l e R s m args below meth c s.heap [] 0 0 Q (F0 m 0 ls []) := by
    intro Q hE_
    have hS_ : va_S A s.heap s.heap [] := va_S.rf
    have hl_ : lv_has ls 3 [(0, .ref (a 0)), (1, .int (jI x1)), (2, .int (jI x2))] := hl_
    have hin_ : ∀ w ∈ u_ws RX2 TX2 3, w ∈ wsX2_isHeard := by decide +kernel
    unfold f_X2_isHeard at h_
    refine lv_iload_n hx_ hb_ dX2_isHeard_0 rfl (lv_at hl_ 1 rfl) ?_
    obtain ⟨v1, hv1, h_⟩ := jb_i h_
    refine jx_cni (ws1 := []) (As := [.int (jI x1)]) (rest := []) ⟨hx_, hb_, hml_, hown_, hts_⟩ hM_ hP_ hD_ hS_ hA_ (c_X4_isTrack l D y z x1 fu v1 hv1) 1 ⟨va_cnB 1 hts_ gX2_isHeard_X4_isTrack_n63 rfl rfl rfl hM_.2.1.2.2.1 (hts_ (.initialized RX4) (by decide +kernel)) (by decide +kernel) ⟨by rw [hR_]; exact Nat.le_of_ble_eq_true rfl, by rw [hR_]; exact Nat.le_of_ble_eq_true rfl⟩, hts_ (.static yX4_isTrack) (by decide +kernel), trivial⟩ rfl rfl hl_.1 (Nat.le_of_ble_eq_true rfl) dX2_isHeard_1 ⟨Nat.zero_le _, Nat.zero_le _⟩ (fun H locs hP_ hD_ hS_ => ?_)
    refine jx_if_eq (tgt := 24) hx_ hb_ h_ dX2_isHeard_4 (by decide) (fun h_ => ?_) (fun h_ => ?_)
    · refine lv_iconst (v := jI 0) hx_ hb_ dX2_isHeard_24 (by decide +kernel) ?_
      obtain ⟨hz_, h_⟩ := jbo_i h_
      exact hE_ _ _ _ _ _ h_ hz_ dX2_isHeard_25 hP_ hD_ hS_
    · refine lv_aload_n hx_ hb_ dX2_isHeard_7 rfl (lv_at hl_ 0 rfl) ?_
      refine lv_iload_n hx_ hb_ dX2_isHeard_8 rfl (lv_at hl_ 2 rfl) ?_
      obtain ⟨v2, hv2, h_⟩ := jb_i h_
      refine jx_cvi (wr := []) (cw := [(wPa y a eh we), (wAr y (a 2) 100 hf)]) (cw1 := [(wPa y a eh we), (wAr y (a 2) 100 hf)]) (cs1 := [(wPa y a eh we), (wAr y (a 2) 100 hf)]) (As := [.int (jI x2)]) (rest := []) ⟨hx_, hb_, hml_, hown_, hts_⟩ hM_ hP_ hD_ hS_ hA_ (List.Perm.refl _) (List.Perm.refl _) (c_X2_heardAt l D y z a eh we hf x2 fu v2 hv2) 1 gX2_isHeard_X2_heardAt rfl ⟨rfl, rfl⟩ (by decide +kernel) ⟨by rw [hR_]; exact Nat.le_of_ble_eq_true rfl, by rw [hR_]; exact Nat.le_of_ble_eq_true rfl⟩ 0 2 rfl rfl rfl rfl rfl hl_.1 (Nat.le_of_ble_eq_true rfl) dX2_isHeard_9 ⟨Nat.zero_le _, Nat.zero_le _⟩ (fun H locs hP_ hD_ hS_ => ?_)
      refine lv_iload_n hx_ hb_ dX2_isHeard_12 rfl (lv_at hl_ 1 rfl) ?_
      refine jx_ishr hx_ hb_ dX2_isHeard_13 ?_
      refine lv_iconst (v := jI 1) hx_ hb_ dX2_isHeard_14 (by decide +kernel) ?_
      refine jx_iand hx_ hb_ dX2_isHeard_15 ?_
      refine lv_iconst (v := jI 1) hx_ hb_ dX2_isHeard_16 (by decide +kernel) ?_
      refine jx_icmp_ne (tgt := 24) hx_ hb_ h_ dX2_isHeard_17 (by decide) (fun h_ => ?_) (fun h_ => ?_)
      · refine lv_iconst (v := jI 0) hx_ hb_ dX2_isHeard_24 (by decide +kernel) ?_
        obtain ⟨hz_, h_⟩ := jbo_i h_
        exact hE_ _ _ _ _ _ h_ hz_ dX2_isHeard_25 hP_ hD_ hS_
      · refine lv_iconst (v := jI 1) hx_ hb_ dX2_isHeard_20 (by decide +kernel) ?_
        refine lv_goto (tgt := 25) hx_ hb_ dX2_isHeard_21 (by decide) ?_
        obtain ⟨hz_, h_⟩ := jbo_i h_
        exact hE_ _ _ _ _ _ h_ hz_ dX2_isHeard_25 hP_ hD_ hS_
  exact key_ _ (fun v9 H locs pc ls h9_ hz_ hdg_ hP_ hD_ hS_ => by cases h9_; exact jend_z hx_ hb_ hr_ hlocks_ hz_ hP_ hD_ hS_ hdg_)
def rm_X2_sideBySide : Room := { frames := 3, cells := 0, slots := 0, locals := 63 }
set_option maxRecDepth 100000 in
set_option maxHeartbeats 8000000 in
theorem c_X2_sideBySide (l : Launch) (D : va_G) (y : Nat → ClassId) (z : Nat → Nat) (a : Nat → Nat) (eh : Int → Int) (we : Int) (hf : Int → Int) (x1 : Int) (fu : Nat) (rr : Int) (h_ : f_X2_sideBySide fu hf x1 = some rr) : jCI l D y z yX2_sideBySide wsX2_sideBySide rm_X2_sideBySide [.ref (a 0), .int (jI x1)] [(wPa y a eh we), (wAr y (a 2) 100 hf)] [(wPa y a eh we), (wAr y (a 2) 100 hf)] rr := by
  intro sz
  refine jmet (Qc := (fun A => va_Qi (fun v (_ : Unit) => v = jI rr) (jB D A [(wPa y a eh we), (wAr y (a 2) 100 hf)]) A)) (cc := cX2_sideBySide) (maxL := 6) (ret := (some .int)) (own := RX2) (by decide) rfl (Nat.le_of_ble_eq_true rfl) rfl (fun p e s m R args below meth c A ls hR_ hargs_ hx_ hb_ hr_ hlocks_ hml_ hown_ hts_ hname_ hsz_ hP_ hD_ hA_ hM_ hl_ => ?_)
  have key_ : ∀ Q : State → Prop, (∀ (v9 : Int) (H : Heap) (locs : List Loc) (pc : Nat) (ls : Array Slot), some v9 = some rr → decode cX2_sideBySide pc = .ok (.ireturn, 1) → va_P D vwCl [(wPa y a eh we), (wAr y (a 2) 100 hf)].flatten H → va_D A [(wPa y a eh we), (wAr y (a 2) 100 hf)].flatten → va_S A s.heap H locs → W p l e R s m args below meth c H locs 0 0 Q (F0 m pc ls [.int (jI v9)])) → W p l e R s m args below meth c s.heap [] 0 0 Q (F0 m 0 ls []) := by
    intro Q hE_
    have hS_ : va_S A s.heap s.heap [] := va_S.rf
    have hl_ : lv_has ls 6 [(0, .ref (a 0)), (1, .int (jI x1))] := hl_
    have hin_ : ∀ w ∈ u_ws RX2 TX2 3, w ∈ wsX2_sideBySide := by decide +kernel
    unfold f_X2_sideBySide at h_
    refine lv_aload_n hx_ hb_ dX2_sideBySide_0 rfl (lv_at hl_ 0 rfl) ?_
    refine lv_iload_n hx_ hb_ dX2_sideBySide_1 rfl (lv_at hl_ 1 rfl) ?_
    obtain ⟨v1, hv1, h_⟩ := jb_i h_
    refine jx_cvi (wr := []) (cw := [(wPa y a eh we), (wAr y (a 2) 100 hf)]) (cw1 := [(wPa y a eh we), (wAr y (a 2) 100 hf)]) (cs1 := [(wPa y a eh we), (wAr y (a 2) 100 hf)]) (As := [.int (jI x1)]) (rest := []) ⟨hx_, hb_, hml_, hown_, hts_⟩ hM_ hP_ hD_ hS_ hA_ (List.Perm.refl _) (List.Perm.refl _) (c_X2_holesAt l D y z a eh we hf x1 fu v1 hv1) 1 gX2_sideBySide_X2_holesAt rfl ⟨rfl, rfl⟩ (by decide +kernel) ⟨by rw [hR_]; exact Nat.le_of_ble_eq_true rfl, by rw [hR_]; exact Nat.le_of_ble_eq_true rfl⟩ 0 2 rfl rfl rfl rfl rfl hl_.1 (Nat.le_of_ble_eq_true rfl) dX2_sideBySide_2 ⟨Nat.zero_le _, Nat.zero_le _⟩ (fun H locs hP_ hD_ hS_ => ?_)
    refine lv_istore_n (lv' := [(2, .int (jI v1)), (0, .ref (a 0)), (1, .int (jI x1))]) hx_ hb_ dX2_sideBySide_5 rfl hl_ (by decide) rfl (fun ls hl_ => ?_)
    refine lv_iconst (v := jI 0) hx_ hb_ dX2_sideBySide_6 (by decide +kernel) ?_
    refine lv_istore_n (lv' := [(3, .int (jI 0)), (2, .int (jI v1)), (0, .ref (a 0)), (1, .int (jI x1))]) hx_ hb_ dX2_sideBySide_7 rfl hl_ (by decide) rfl (fun ls hl_ => ?_)
    refine lv_iconst (v := jI 0) hx_ hb_ dX2_sideBySide_8 (by decide +kernel) ?_
    refine lv_istore (lv' := [(4, .int (jI 0)), (3, .int (jI 0)), (2, .int (jI v1)), (0, .ref (a 0)), (1, .int (jI x1))]) hx_ hb_ dX2_sideBySide_9 hl_ (by decide) rfl (fun ls hl_ => ?_)
    refine lv_iconst (v := jI 0) hx_ hb_ dX2_sideBySide_11 (by decide +kernel) ?_
    refine lv_istore (lv' := [(5, .int (jI 0)), (4, .int (jI 0)), (3, .int (jI 0)), (2, .int (jI v1)), (0, .ref (a 0)), (1, .int (jI x1))]) hx_ hb_ dX2_sideBySide_12 hl_ (by decide) rfl (fun ls hl_ => ?_)
    have hX54 : ∀ (v2 : Int) (H : Heap) (locs : List Loc) (ls : Array Slot), f_X2_sideBySide_X54 fu v2 = some rr → va_P D vwCl [(wPa y a eh we), (wAr y (a 2) 100 hf)].flatten H → va_D A [(wPa y a eh we), (wAr y (a 2) 100 hf)].flatten → va_S A s.heap H locs → lv_has ls 6 [(3, .int (jI v2))] → W p l e R s m args below meth c H locs 0 0 Q (F0 m 54 ls []) := by
      intro v2 H locs ls h_ hP_ hD_ hS_ hl_
      unfold f_X2_sideBySide_X54 at h_
      refine lv_iload_n hx_ hb_ dX2_sideBySide_54 rfl (lv_at hl_ 0 rfl) ?_
      exact hE_ _ _ _ _ _ h_ dX2_sideBySide_55 hP_ hD_ hS_
    have hL14 : ∀ n14 : Nat, ∀ (v3 : Int) (v4 : Int) (v5 : Int) (H : Heap) (locs : List Loc) (ls : Array Slot), f_X2_sideBySide_L14 fu v1 (f_X2_sideBySide_X54 fu) n14 v3 v4 v5 = some rr → va_P D vwCl [(wPa y a eh we), (wAr y (a 2) 100 hf)].flatten H → va_D A [(wPa y a eh we), (wAr y (a 2) 100 hf)].flatten → va_S A s.heap H locs → lv_has ls 6 [(2, .int (jI v1)), (3, .int (jI v3)), (4, .int (jI v4)), (5, .int (jI v5))] → W p l e R s m args below meth c H locs 0 0 Q (F0 m 14 ls []) := by
      intro n14
      induction n14 with
      | zero => intro _ _ _ H locs ls h_; have h_ : (none : Option (Int)) = some rr := h_; cases h_
      | succ n14 ih14 =>
        intro v3 v4 v5 H locs ls h_ hP_ hD_ hS_ hl_
        replace h_ : f_X2_sideBySide_L14_b fu v1 (f_X2_sideBySide_X54 fu) (f_X2_sideBySide_L14 fu v1 (f_X2_sideBySide_X54 fu) n14) v3 v4 v5 = some rr := h_
        unfold f_X2_sideBySide_L14_b at h_
        refine lv_iload hx_ hb_ dX2_sideBySide_14 (lv_at hl_ 3 rfl) ?_
        refine lv_bipush (v := jI 12) hx_ hb_ dX2_sideBySide_16 (by decide +kernel) ?_
        refine jx_icmp_ge (tgt := 54) hx_ hb_ h_ dX2_sideBySide_18 (by decide) (fun h_ => ?_) (fun h_ => ?_)
        · exact hX54 _ _ _ ls h_ hP_ hD_ hS_ (lv_sub hl_ [1] rfl)
        · refine lv_iload_n hx_ hb_ dX2_sideBySide_21 rfl (lv_at hl_ 0 rfl) ?_
          refine lv_iload hx_ hb_ dX2_sideBySide_22 (lv_at hl_ 3 rfl) ?_
          refine jx_ishr hx_ hb_ dX2_sideBySide_24 ?_
          refine lv_iconst (v := jI 1) hx_ hb_ dX2_sideBySide_25 (by decide +kernel) ?_
          refine jx_iand hx_ hb_ dX2_sideBySide_26 ?_
          refine lv_iconst (v := jI 1) hx_ hb_ dX2_sideBySide_27 (by decide +kernel) ?_
          have hJ39 : ∀ (v6 : Int) (H : Heap) (locs : List Loc) (ls : Array Slot), f_X2_sideBySide_J39 fu v3 v5 (f_X2_sideBySide_L14 fu v1 (f_X2_sideBySide_X54 fu) n14) v6 = some rr → va_P D vwCl [(wPa y a eh we), (wAr y (a 2) 100 hf)].flatten H → va_D A [(wPa y a eh we), (wAr y (a 2) 100 hf)].flatten → va_S A s.heap H locs → lv_has ls 6 [(2, .int (jI v1)), (3, .int (jI v3)), (5, .int (jI v5))] → W p l e R s m args below meth c H locs 0 0 Q (F0 m 39 ls [.int (jI v6)]) := by
            intro v6 H locs ls h_ hP_ hD_ hS_ hl_
            unfold f_X2_sideBySide_J39 at h_
            refine lv_istore (lv' := [(4, .int (jI v6)), (2, .int (jI v1)), (3, .int (jI v3)), (5, .int (jI v5))]) hx_ hb_ dX2_sideBySide_39 hl_ (by decide) rfl (fun ls hl_ => ?_)
            refine lv_iload_n hx_ hb_ dX2_sideBySide_41 rfl (lv_at hl_ 2 rfl) ?_
            refine lv_iload hx_ hb_ dX2_sideBySide_42 (lv_at hl_ 0 rfl) ?_
            refine jx_mmax hx_ hb_ (hml_.trans hl_.1.symm) hown_ (hts_ (.methodLink RX2 69 Lib.Math.max.name) (by decide +kernel)) (hts_ (.static Lib.Math.max.name) (by decide +kernel)) (hts_ (.initialized "java/lang/Math") (by decide +kernel)) (hts_ (.code Lib.Math.max.name Lib.Math.max.code 2 (some .int)) (by decide +kernel)) (by rw [hR_]; exact Nat.le_of_ble_eq_true rfl) (by rw [hR_]; exact Nat.le_of_ble_eq_true rfl) (Nat.zero_le _) (Nat.zero_le _) h_ dX2_sideBySide_44 (fun h_ => ?_)
            refine lv_istore_n (lv' := [(3, .int (jI (jmax v3 v6))), (4, .int (jI v6)), (2, .int (jI v1)), (5, .int (jI v5))]) hx_ hb_ dX2_sideBySide_47 rfl hl_ (by decide) rfl (fun ls hl_ => ?_)
            refine lv_iinc (v := jI (v5 + 1)) (lv' := [(5, .int (jI (v5 + 1))), (3, .int (jI (jmax v3 v6))), (4, .int (jI v6)), (2, .int (jI v1))]) hx_ hb_ dX2_sideBySide_48 hl_ (k := 3) rfl (jI_add _ _) (by decide) rfl (fun ls hl_ => ?_)
            refine lv_goto (tgt := 14) hx_ hb_ dX2_sideBySide_51 (by decide) ?_
            exact ih14 _ _ _ _ _ ls h_ hP_ hD_ hS_ (lv_sub hl_ [3, 1, 2, 0] rfl)
          refine jx_icmp_ne (tgt := 38) hx_ hb_ h_ dX2_sideBySide_28 (by decide) (fun h_ => ?_) (fun h_ => ?_)
          · refine lv_iconst (v := jI 0) hx_ hb_ dX2_sideBySide_38 (by decide +kernel) ?_
            exact hJ39 _ _ _ ls h_ hP_ hD_ hS_ (lv_sub hl_ [0, 1, 3] rfl)
          · refine lv_iload hx_ hb_ dX2_sideBySide_31 (lv_at hl_ 2 rfl) ?_
            refine lv_iconst (v := jI 1) hx_ hb_ dX2_sideBySide_33 (by decide +kernel) ?_
            refine jx_iadd hx_ hb_ dX2_sideBySide_34 ?_
            refine lv_goto (tgt := 39) hx_ hb_ dX2_sideBySide_35 (by decide) ?_
            exact hJ39 _ _ _ ls h_ hP_ hD_ hS_ (lv_sub hl_ [0, 1, 3] rfl)
    exact hL14 fu _ _ _ _ _ ls h_ hP_ hD_ hS_ (lv_sub hl_ [3, 2, 1, 0] rfl)
  exact key_ _ (fun v9 H locs pc ls h9_ hdg_ hP_ hD_ hS_ => by cases h9_; exact jend_i hx_ hb_ hr_ hlocks_ hP_ hD_ hS_ hdg_)
def rm_X2_isWeak : Room := { frames := 4, cells := 0, slots := 0, locals := 88 }
set_option maxRecDepth 100000 in
set_option maxHeartbeats 8000000 in
theorem c_X2_isWeak (l : Launch) (D : va_G) (y : Nat → ClassId) (z : Nat → Nat) (a : Nat → Nat) (eh : Int → Int) (we : Int) (hf : Int → Int) (x1 : Int) (fu : Nat) (rr : Int) (h_ : f_X2_isWeak fu we hf x1 = some rr) : jCI l D y z yX2_isWeak wsX2_isWeak rm_X2_isWeak [.ref (a 0), .int (jI x1)] [(wPa y a eh we), (wAr y (a 2) 100 hf)] [(wPa y a eh we), (wAr y (a 2) 100 hf)] rr := by
  intro sz
  refine jmet (Qc := (fun A => va_Qi (fun v (_ : Unit) => v = jI rr) (jB D A [(wPa y a eh we), (wAr y (a 2) 100 hf)]) A)) (cc := cX2_isWeak) (maxL := 2) (ret := (some .boolean)) (own := RX2) (by decide) rfl (Nat.le_of_ble_eq_true rfl) rfl (fun p e s m R args below meth c A ls hR_ hargs_ hx_ hb_ hr_ hlocks_ hml_ hown_ hts_ hname_ hsz_ hP_ hD_ hA_ hM_ hl_ => ?_)
  have key_ : ∀ Q : State → Prop, (∀ (v9 : Int) (H : Heap) (locs : List Loc) (pc : Nat) (ls : Array Slot), some v9 = some rr → (v9 = 0 ∨ v9 = 1) → decode cX2_isWeak pc = .ok (.ireturn, 1) → va_P D vwCl [(wPa y a eh we), (wAr y (a 2) 100 hf)].flatten H → va_D A [(wPa y a eh we), (wAr y (a 2) 100 hf)].flatten → va_S A s.heap H locs → W p l e R s m args below meth c H locs 0 0 Q (F0 m pc ls [.int (jI v9)])) → W p l e R s m args below meth c s.heap [] 0 0 Q (F0 m 0 ls []) := by
    intro Q hE_
    have hS_ : va_S A s.heap s.heap [] := va_S.rf
    have hl_ : lv_has ls 2 [(0, .ref (a 0)), (1, .int (jI x1))] := hl_
    have hin_ : ∀ w ∈ u_ws RX2 TX2 3, w ∈ wsX2_isWeak := by decide +kernel
    unfold f_X2_isWeak at h_
    refine lv_aload_n hx_ hb_ dX2_isWeak_0 rfl (lv_at hl_ 0 rfl) ?_
    refine lv_iload_n hx_ hb_ dX2_isWeak_1 rfl (lv_at hl_ 1 rfl) ?_
    obtain ⟨v1, hv1, h_⟩ := jb_i h_
    refine jx_cvi (wr := []) (cw := [(wPa y a eh we), (wAr y (a 2) 100 hf)]) (cw1 := [(wPa y a eh we), (wAr y (a 2) 100 hf)]) (cs1 := [(wPa y a eh we), (wAr y (a 2) 100 hf)]) (As := [.int (jI x1)]) (rest := []) ⟨hx_, hb_, hml_, hown_, hts_⟩ hM_ hP_ hD_ hS_ hA_ (List.Perm.refl _) (List.Perm.refl _) (c_X2_sideBySide l D y z a eh we hf x1 fu v1 hv1) 1 gX2_isWeak_X2_sideBySide rfl ⟨rfl, rfl⟩ (by decide +kernel) ⟨by rw [hR_]; exact Nat.le_of_ble_eq_true rfl, by rw [hR_]; exact Nat.le_of_ble_eq_true rfl⟩ 0 2 rfl rfl rfl rfl rfl hl_.1 (Nat.le_of_ble_eq_true rfl) dX2_isWeak_2 ⟨Nat.zero_le _, Nat.zero_le _⟩ (fun H locs hP_ hD_ hS_ => ?_)
    refine lv_aload_n hx_ hb_ dX2_isWeak_5 rfl (lv_at hl_ 0 rfl) ?_
    refine va_get (D := D) (ci := 2) (v := .int (jI we)) (C := RX2) (T := TX2) (N := 3) hx_ hb_ hts_ hin_ hown_ hM_.1 hP_ 0 rfl rfl 2 (by decide) (hts_ (.fieldLink RX2 24 "MusicHoles$Paper" "weak" "I") (by decide +kernel)) (fun _ h9_ => h9_) rfl dX2_isWeak_6 ?_
    refine jx_icmp_lt (tgt := 16) hx_ hb_ h_ dX2_isWeak_9 (by decide) (fun h_ => ?_) (fun h_ => ?_)
    · refine lv_iconst (v := jI 0) hx_ hb_ dX2_isWeak_16 (by decide +kernel) ?_
      obtain ⟨hz_, h_⟩ := jbo_i h_
      exact hE_ _ _ _ _ _ h_ hz_ dX2_isWeak_17 hP_ hD_ hS_
    · refine lv_iconst (v := jI 1) hx_ hb_ dX2_isWeak_12 (by decide +kernel) ?_
      refine lv_goto (tgt := 17) hx_ hb_ dX2_isWeak_13 (by decide) ?_
      obtain ⟨hz_, h_⟩ := jbo_i h_
      exact hE_ _ _ _ _ _ h_ hz_ dX2_isWeak_17 hP_ hD_ hS_
  exact key_ _ (fun v9 H locs pc ls h9_ hz_ hdg_ hP_ hD_ hS_ => by cases h9_; exact jend_z hx_ hb_ hr_ hlocks_ hz_ hP_ hD_ hS_ hdg_)
def rm_X2_startsSound : Room := { frames := 4, cells := 0, slots := 0, locals := 85 }
set_option maxRecDepth 100000 in
set_option maxHeartbeats 8000000 in
theorem c_X2_startsSound (l : Launch) (D : va_G) (y : Nat → ClassId) (z : Nat → Nat) (a : Nat → Nat) (eh : Int → Int) (we : Int) (hf : Int → Int) (x1 : Int) (x2 : Int) (fu : Nat) (rr : Int) (h_ : f_X2_startsSound fu eh x1 x2 = some rr) : jCI l D y z yX2_startsSound wsX2_startsSound rm_X2_startsSound [.ref (a 0), .int (jI x1), .int (jI x2)] [(wPa y a eh we), (wAr y (a 2) 100 hf)] [(wPa y a eh we), (wAr y (a 2) 100 hf)] rr := by
  intro sz
  refine jmet (Qc := (fun A => va_Qi (fun v (_ : Unit) => v = jI rr) (jB D A [(wPa y a eh we), (wAr y (a 2) 100 hf)]) A)) (cc := cX2_startsSound) (maxL := 3) (ret := (some .boolean)) (own := RX2) (by decide) rfl (Nat.le_of_ble_eq_true rfl) rfl (fun p e s m R args below meth c A ls hR_ hargs_ hx_ hb_ hr_ hlocks_ hml_ hown_ hts_ hname_ hsz_ hP_ hD_ hA_ hM_ hl_ => ?_)
  have key_ : ∀ Q : State → Prop, (∀ (v9 : Int) (H : Heap) (locs : List Loc) (pc : Nat) (ls : Array Slot), some v9 = some rr → (v9 = 0 ∨ v9 = 1) → decode cX2_startsSound pc = .ok (.ireturn, 1) → va_P D vwCl [(wPa y a eh we), (wAr y (a 2) 100 hf)].flatten H → va_D A [(wPa y a eh we), (wAr y (a 2) 100 hf)].flatten → va_S A s.heap H locs → W p l e R s m args below meth c H locs 0 0 Q (F0 m pc ls [.int (jI v9)])) → W p l e R s m args below meth c s.heap [] 0 0 Q (F0 m 0 ls []) := by
    intro Q hE_
    have hS_ : va_S A s.heap s.heap [] := va_S.rf
    have hl_ : lv_has ls 3 [(0, .ref (a 0)), (1, .int (jI x1)), (2, .int (jI x2))] := hl_
    have hin_ : ∀ w ∈ u_ws RX2 TX2 3, w ∈ wsX2_startsSound := by decide +kernel
    unfold f_X2_startsSound at h_
    refine lv_aload_n hx_ hb_ dX2_startsSound_0 rfl (lv_at hl_ 0 rfl) ?_
    refine lv_iload_n hx_ hb_ dX2_startsSound_1 rfl (lv_at hl_ 1 rfl) ?_
    refine lv_iload_n hx_ hb_ dX2_startsSound_2 rfl (lv_at hl_ 2 rfl) ?_
    obtain ⟨v1, hv1, h_⟩ := jb_i h_
    refine jx_cvi (wr := []) (cw := [(wPa y a eh we), (wAr y (a 2) 100 hf)]) (cw1 := [(wPa y a eh we), (wAr y (a 2) 100 hf)]) (cs1 := [(wPa y a eh we), (wAr y (a 2) 100 hf)]) (As := [.int (jI x1), .int (jI x2)]) (rest := []) ⟨hx_, hb_, hml_, hown_, hts_⟩ hM_ hP_ hD_ hS_ hA_ (List.Perm.refl _) (List.Perm.refl _) (c_X2_isHeard l D y z a eh we hf x1 x2 fu v1 hv1) 2 gX2_startsSound_X2_isHeard rfl ⟨rfl, rfl⟩ (by decide +kernel) ⟨by rw [hR_]; exact Nat.le_of_ble_eq_true rfl, by rw [hR_]; exact Nat.le_of_ble_eq_true rfl⟩ 0 2 rfl rfl rfl rfl rfl hl_.1 (Nat.le_of_ble_eq_true rfl) dX2_startsSound_3 ⟨Nat.zero_le _, Nat.zero_le _⟩ (fun H locs hP_ hD_ hS_ => ?_)
    refine jx_if_eq (tgt := 24) hx_ hb_ h_ dX2_startsSound_6 (by decide) (fun h_ => ?_) (fun h_ => ?_)
    · refine lv_iconst (v := jI 0) hx_ hb_ dX2_startsSound_24 (by decide +kernel) ?_
      obtain ⟨hz_, h_⟩ := jbo_i h_
      exact hE_ _ _ _ _ _ h_ hz_ dX2_startsSound_25 hP_ hD_ hS_
    · refine lv_aload_n hx_ hb_ dX2_startsSound_9 rfl (lv_at hl_ 0 rfl) ?_
      refine lv_iload_n hx_ hb_ dX2_startsSound_10 rfl (lv_at hl_ 1 rfl) ?_
      refine lv_iload_n hx_ hb_ dX2_startsSound_11 rfl (lv_at hl_ 2 rfl) ?_
      refine lv_iconst (v := jI 1) hx_ hb_ dX2_startsSound_12 (by decide +kernel) ?_
      refine jx_isub hx_ hb_ dX2_startsSound_13 ?_
      obtain ⟨v2, hv2, h_⟩ := jb_i h_
      refine jx_cvi (wr := []) (cw := [(wPa y a eh we), (wAr y (a 2) 100 hf)]) (cw1 := [(wPa y a eh we), (wAr y (a 2) 100 hf)]) (cs1 := [(wPa y a eh we), (wAr y (a 2) 100 hf)]) (As := [.int (jI x1), .int (jI (x2 - 1))]) (rest := []) ⟨hx_, hb_, hml_, hown_, hts_⟩ hM_ hP_ hD_ hS_ hA_ (List.Perm.refl _) (List.Perm.refl _) (c_X2_isHeard l D y z a eh we hf x1 (x2 - 1) fu v2 hv2) 2 gX2_startsSound_X2_isHeard rfl ⟨rfl, rfl⟩ (by decide +kernel) ⟨by rw [hR_]; exact Nat.le_of_ble_eq_true rfl, by rw [hR_]; exact Nat.le_of_ble_eq_true rfl⟩ 0 2 rfl rfl rfl rfl rfl hl_.1 (Nat.le_of_ble_eq_true rfl) dX2_startsSound_14 ⟨Nat.zero_le _, Nat.zero_le _⟩ (fun H locs hP_ hD_ hS_ => ?_)
      refine jx_if_ne (tgt := 24) hx_ hb_ h_ dX2_startsSound_17 (by decide) (fun h_ => ?_) (fun h_ => ?_)
      · refine lv_iconst (v := jI 0) hx_ hb_ dX2_startsSound_24 (by decide +kernel) ?_
        obtain ⟨hz_, h_⟩ := jbo_i h_
        exact hE_ _ _ _ _ _ h_ hz_ dX2_startsSound_25 hP_ hD_ hS_
      · refine lv_iconst (v := jI 1) hx_ hb_ dX2_startsSound_20 (by decide +kernel) ?_
        refine lv_goto (tgt := 25) hx_ hb_ dX2_startsSound_21 (by decide) ?_
        obtain ⟨hz_, h_⟩ := jbo_i h_
        exact hE_ _ _ _ _ _ h_ hz_ dX2_startsSound_25 hP_ hD_ hS_
  exact key_ _ (fun v9 H locs pc ls h9_ hz_ hdg_ hP_ hD_ hS_ => by cases h9_; exact jend_z hx_ hb_ hr_ hlocks_ hz_ hP_ hD_ hS_ hdg_)
def rm_X2_soundStart : Room := { frames := 5, cells := 0, slots := 0, locals := 107 }
set_option maxRecDepth 100000 in
set_option maxHeartbeats 8000000 in
theorem c_X2_soundStart (l : Launch) (D : va_G) (y : Nat → ClassId) (z : Nat → Nat) (a : Nat → Nat) (eh : Int → Int) (we : Int) (hf : Int → Int) (x1 : Int) (x2 : Int) (fu : Nat) (rr : Int) (h_ : f_X2_soundStart fu eh x1 x2 = some rr) : jCI l D y z yX2_soundStart wsX2_soundStart rm_X2_soundStart [.ref (a 0), .int (jI x1), .int (jI x2)] [(wPa y a eh we), (wAr y (a 2) 100 hf)] [(wPa y a eh we), (wAr y (a 2) 100 hf)] rr := by
  intro sz
  refine jmet (Qc := (fun A => va_Qi (fun v (_ : Unit) => v = jI rr) (jB D A [(wPa y a eh we), (wAr y (a 2) 100 hf)]) A)) (cc := cX2_soundStart) (maxL := 5) (ret := (some .int)) (own := RX2) (by decide) rfl (Nat.le_of_ble_eq_true rfl) rfl (fun p e s m R args below meth c A ls hR_ hargs_ hx_ hb_ hr_ hlocks_ hml_ hown_ hts_ hname_ hsz_ hP_ hD_ hA_ hM_ hl_ => ?_)
  have key_ : ∀ Q : State → Prop, (∀ (v9 : Int) (H : Heap) (locs : List Loc) (pc : Nat) (ls : Array Slot), some v9 = some rr → decode cX2_soundStart pc = .ok (.ireturn, 1) → va_P D vwCl [(wPa y a eh we), (wAr y (a 2) 100 hf)].flatten H → va_D A [(wPa y a eh we), (wAr y (a 2) 100 hf)].flatten → va_S A s.heap H locs → W p l e R s m args below meth c H locs 0 0 Q (F0 m pc ls [.int (jI v9)])) → W p l e R s m args below meth c s.heap [] 0 0 Q (F0 m 0 ls []) := by
    intro Q hE_
    have hS_ : va_S A s.heap s.heap [] := va_S.rf
    have hl_ : lv_has ls 5 [(0, .ref (a 0)), (1, .int (jI x1)), (2, .int (jI x2))] := hl_
    have hin_ : ∀ w ∈ u_ws RX2 TX2 3, w ∈ wsX2_soundStart := by decide +kernel
    unfold f_X2_soundStart at h_
    refine lv_iconst (v := jI 0) hx_ hb_ dX2_soundStart_0 (by decide +kernel) ?_
    refine lv_istore_n (lv' := [(3, .int (jI 0)), (0, .ref (a 0)), (1, .int (jI x1)), (2, .int (jI x2))]) hx_ hb_ dX2_soundStart_1 rfl hl_ (by decide) rfl (fun ls hl_ => ?_)
    refine lv_iconst (v := jI 0) hx_ hb_ dX2_soundStart_2 (by decide +kernel) ?_
    refine lv_istore (lv' := [(4, .int (jI 0)), (3, .int (jI 0)), (0, .ref (a 0)), (1, .int (jI x1)), (2, .int (jI x2))]) hx_ hb_ dX2_soundStart_3 hl_ (by decide) rfl (fun ls hl_ => ?_)
    have hX39 : ∀  (H : Heap) (locs : List Loc) (ls : Array Slot), f_X2_soundStart_X39 fu = some rr → va_P D vwCl [(wPa y a eh we), (wAr y (a 2) 100 hf)].flatten H → va_D A [(wPa y a eh we), (wAr y (a 2) 100 hf)].flatten → va_S A s.heap H locs → lv_has ls 5 [] → W p l e R s m args below meth c H locs 0 0 Q (F0 m 39 ls []) := by
      intro  H locs ls h_ hP_ hD_ hS_ hl_
      unfold f_X2_soundStart_X39 at h_
      refine lv_iconst (v := jI (-1)) hx_ hb_ dX2_soundStart_39 (by decide +kernel) ?_
      exact hE_ _ _ _ _ _ h_ dX2_soundStart_40 hP_ hD_ hS_
    have hL5 : ∀ n5 : Nat, ∀ (v1 : Int) (v2 : Int) (H : Heap) (locs : List Loc) (ls : Array Slot), f_X2_soundStart_L5 fu eh x1 x2 (f_X2_soundStart_X39 fu) n5 v1 v2 = some rr → va_P D vwCl [(wPa y a eh we), (wAr y (a 2) 100 hf)].flatten H → va_D A [(wPa y a eh we), (wAr y (a 2) 100 hf)].flatten → va_S A s.heap H locs → lv_has ls 5 [(0, .ref (a 0)), (1, .int (jI x1)), (2, .int (jI x2)), (3, .int (jI v1)), (4, .int (jI v2))] → W p l e R s m args below meth c H locs 0 0 Q (F0 m 5 ls []) := by
      intro n5
      induction n5 with
      | zero => intro _ _ H locs ls h_; have h_ : (none : Option (Int)) = some rr := h_; cases h_
      | succ n5 ih5 =>
        intro v1 v2 H locs ls h_ hP_ hD_ hS_ hl_
        replace h_ : f_X2_soundStart_L5_b fu eh x1 x2 (f_X2_soundStart_X39 fu) (f_X2_soundStart_L5 fu eh x1 x2 (f_X2_soundStart_X39 fu) n5) v1 v2 = some rr := h_
        unfold f_X2_soundStart_L5_b at h_
        refine lv_iload hx_ hb_ dX2_soundStart_5 (lv_at hl_ 4 rfl) ?_
        refine lv_bipush (v := jI 100) hx_ hb_ dX2_soundStart_7 (by decide +kernel) ?_
        refine jx_icmp_ge (tgt := 39) hx_ hb_ h_ dX2_soundStart_9 (by decide) (fun h_ => ?_) (fun h_ => ?_)
        · exact hX39  _ _ ls h_ hP_ hD_ hS_ (lv_sub hl_ [] rfl)
        · refine lv_aload_n hx_ hb_ dX2_soundStart_12 rfl (lv_at hl_ 0 rfl) ?_
          refine lv_iload_n hx_ hb_ dX2_soundStart_13 rfl (lv_at hl_ 1 rfl) ?_
          refine lv_iload hx_ hb_ dX2_soundStart_14 (lv_at hl_ 4 rfl) ?_
          obtain ⟨v3, hv3, h_⟩ := jb_i h_
          refine jx_cvi (wr := []) (cw := [(wPa y a eh we), (wAr y (a 2) 100 hf)]) (cw1 := [(wPa y a eh we), (wAr y (a 2) 100 hf)]) (cs1 := [(wPa y a eh we), (wAr y (a 2) 100 hf)]) (As := [.int (jI x1), .int (jI v2)]) (rest := []) ⟨hx_, hb_, hml_, hown_, hts_⟩ hM_ hP_ hD_ hS_ hA_ (List.Perm.refl _) (List.Perm.refl _) (c_X2_startsSound l D y z a eh we hf x1 v2 fu v3 hv3) 2 gX2_soundStart_X2_startsSound rfl ⟨rfl, rfl⟩ (by decide +kernel) ⟨by rw [hR_]; exact Nat.le_of_ble_eq_true rfl, by rw [hR_]; exact Nat.le_of_ble_eq_true rfl⟩ 0 2 rfl rfl rfl rfl rfl hl_.1 (Nat.le_of_ble_eq_true rfl) dX2_soundStart_16 ⟨Nat.zero_le _, Nat.zero_le _⟩ (fun H locs hP_ hD_ hS_ => ?_)
          refine jx_if_eq (tgt := 33) hx_ hb_ h_ dX2_soundStart_19 (by decide) (fun h_ => ?_) (fun h_ => ?_)
          · refine lv_iinc (v := jI (v2 + 1)) (lv' := [(4, .int (jI (v2 + 1))), (0, .ref (a 0)), (1, .int (jI x1)), (2, .int (jI x2)), (3, .int (jI v1))]) hx_ hb_ dX2_soundStart_33 hl_ (k := 4) rfl (jI_add _ _) (by decide) rfl (fun ls hl_ => ?_)
            refine lv_goto (tgt := 5) hx_ hb_ dX2_soundStart_36 (by decide) ?_
            exact ih5 _ _ _ _ ls h_ hP_ hD_ hS_ (lv_sub hl_ [1, 2, 3, 4, 0] rfl)
          · refine lv_iload_n hx_ hb_ dX2_soundStart_22 rfl (lv_at hl_ 3 rfl) ?_
            refine lv_iload_n hx_ hb_ dX2_soundStart_23 rfl (lv_at hl_ 2 rfl) ?_
            refine jx_icmp_ne (tgt := 30) hx_ hb_ h_ dX2_soundStart_24 (by decide) (fun h_ => ?_) (fun h_ => ?_)
            · refine lv_iinc (v := jI (v1 + 1)) (lv' := [(3, .int (jI (v1 + 1))), (0, .ref (a 0)), (1, .int (jI x1)), (2, .int (jI x2)), (4, .int (jI v2))]) hx_ hb_ dX2_soundStart_30 hl_ (k := 3) rfl (jI_add _ _) (by decide) rfl (fun ls hl_ => ?_)
              refine lv_iinc (v := jI (v2 + 1)) (lv' := [(4, .int (jI (v2 + 1))), (3, .int (jI (v1 + 1))), (0, .ref (a 0)), (1, .int (jI x1)), (2, .int (jI x2))]) hx_ hb_ dX2_soundStart_33 hl_ (k := 4) rfl (jI_add _ _) (by decide) rfl (fun ls hl_ => ?_)
              refine lv_goto (tgt := 5) hx_ hb_ dX2_soundStart_36 (by decide) ?_
              exact ih5 _ _ _ _ ls h_ hP_ hD_ hS_ (lv_sub hl_ [2, 3, 4, 1, 0] rfl)
            · refine lv_iload hx_ hb_ dX2_soundStart_27 (lv_at hl_ 4 rfl) ?_
              exact hE_ _ _ _ _ _ h_ dX2_soundStart_29 hP_ hD_ hS_
    exact hL5 fu _ _ _ _ ls h_ hP_ hD_ hS_ (lv_sub hl_ [2, 3, 4, 1, 0] rfl)
  exact key_ _ (fun v9 H locs pc ls h9_ hdg_ hP_ hD_ hS_ => by cases h9_; exact jend_i hx_ hb_ hr_ hlocks_ hP_ hD_ hS_ hdg_)
def rm_X2_soundEnd : Room := { frames := 4, cells := 0, slots := 0, locals := 85 }
set_option maxRecDepth 100000 in
set_option maxHeartbeats 8000000 in
theorem c_X2_soundEnd (l : Launch) (D : va_G) (y : Nat → ClassId) (z : Nat → Nat) (a : Nat → Nat) (eh : Int → Int) (we : Int) (hf : Int → Int) (x1 : Int) (x2 : Int) (fu : Nat) (rr : Int) (h_ : f_X2_soundEnd fu eh x1 x2 = some rr) : jCI l D y z yX2_soundEnd wsX2_soundEnd rm_X2_soundEnd [.ref (a 0), .int (jI x1), .int (jI x2)] [(wPa y a eh we), (wAr y (a 2) 100 hf)] [(wPa y a eh we), (wAr y (a 2) 100 hf)] rr := by
  intro sz
  refine jmet (Qc := (fun A => va_Qi (fun v (_ : Unit) => v = jI rr) (jB D A [(wPa y a eh we), (wAr y (a 2) 100 hf)]) A)) (cc := cX2_soundEnd) (maxL := 5) (ret := (some .int)) (own := RX2) (by decide) rfl (Nat.le_of_ble_eq_true rfl) rfl (fun p e s m R args below meth c A ls hR_ hargs_ hx_ hb_ hr_ hlocks_ hml_ hown_ hts_ hname_ hsz_ hP_ hD_ hA_ hM_ hl_ => ?_)
  have key_ : ∀ Q : State → Prop, (∀ (v9 : Int) (H : Heap) (locs : List Loc) (pc : Nat) (ls : Array Slot), some v9 = some rr → decode cX2_soundEnd pc = .ok (.ireturn, 1) → va_P D vwCl [(wPa y a eh we), (wAr y (a 2) 100 hf)].flatten H → va_D A [(wPa y a eh we), (wAr y (a 2) 100 hf)].flatten → va_S A s.heap H locs → W p l e R s m args below meth c H locs 0 0 Q (F0 m pc ls [.int (jI v9)])) → W p l e R s m args below meth c s.heap [] 0 0 Q (F0 m 0 ls []) := by
    intro Q hE_
    have hS_ : va_S A s.heap s.heap [] := va_S.rf
    have hl_ : lv_has ls 5 [(0, .ref (a 0)), (1, .int (jI x1)), (2, .int (jI x2))] := hl_
    have hin_ : ∀ w ∈ u_ws RX2 TX2 3, w ∈ wsX2_soundEnd := by decide +kernel
    unfold f_X2_soundEnd at h_
    refine lv_iload_n hx_ hb_ dX2_soundEnd_0 rfl (lv_at hl_ 2 rfl) ?_
    refine lv_istore_n (lv' := [(3, .int (jI x2)), (0, .ref (a 0)), (1, .int (jI x1)), (2, .int (jI x2))]) hx_ hb_ dX2_soundEnd_1 rfl hl_ (by decide) rfl (fun ls hl_ => ?_)
    refine lv_iload_n hx_ hb_ dX2_soundEnd_2 rfl (lv_at hl_ 3 rfl) ?_
    refine lv_istore (lv' := [(4, .int (jI x2)), (3, .int (jI x2)), (0, .ref (a 0)), (1, .int (jI x1)), (2, .int (jI x2))]) hx_ hb_ dX2_soundEnd_3 hl_ (by decide) rfl (fun ls hl_ => ?_)
    have hX31 : ∀ (v1 : Int) (H : Heap) (locs : List Loc) (ls : Array Slot), f_X2_soundEnd_X31 fu v1 = some rr → va_P D vwCl [(wPa y a eh we), (wAr y (a 2) 100 hf)].flatten H → va_D A [(wPa y a eh we), (wAr y (a 2) 100 hf)].flatten → va_S A s.heap H locs → lv_has ls 5 [(3, .int (jI v1))] → W p l e R s m args below meth c H locs 0 0 Q (F0 m 31 ls []) := by
      intro v1 H locs ls h_ hP_ hD_ hS_ hl_
      unfold f_X2_soundEnd_X31 at h_
      refine lv_iload_n hx_ hb_ dX2_soundEnd_31 rfl (lv_at hl_ 0 rfl) ?_
      exact hE_ _ _ _ _ _ h_ dX2_soundEnd_32 hP_ hD_ hS_
    have hL5 : ∀ n5 : Nat, ∀ (v2 : Int) (v3 : Int) (H : Heap) (locs : List Loc) (ls : Array Slot), f_X2_soundEnd_L5 fu eh x1 (f_X2_soundEnd_X31 fu) n5 v2 v3 = some rr → va_P D vwCl [(wPa y a eh we), (wAr y (a 2) 100 hf)].flatten H → va_D A [(wPa y a eh we), (wAr y (a 2) 100 hf)].flatten → va_S A s.heap H locs → lv_has ls 5 [(0, .ref (a 0)), (1, .int (jI x1)), (3, .int (jI v2)), (4, .int (jI v3))] → W p l e R s m args below meth c H locs 0 0 Q (F0 m 5 ls []) := by
      intro n5
      induction n5 with
      | zero => intro _ _ H locs ls h_; have h_ : (none : Option (Int)) = some rr := h_; cases h_
      | succ n5 ih5 =>
        intro v2 v3 H locs ls h_ hP_ hD_ hS_ hl_
        replace h_ : f_X2_soundEnd_L5_b fu eh x1 (f_X2_soundEnd_X31 fu) (f_X2_soundEnd_L5 fu eh x1 (f_X2_soundEnd_X31 fu) n5) v2 v3 = some rr := h_
        unfold f_X2_soundEnd_L5_b at h_
        refine lv_iload hx_ hb_ dX2_soundEnd_5 (lv_at hl_ 3 rfl) ?_
        refine lv_bipush (v := jI 100) hx_ hb_ dX2_soundEnd_7 (by decide +kernel) ?_
        refine jx_icmp_ge (tgt := 31) hx_ hb_ h_ dX2_soundEnd_9 (by decide) (fun h_ => ?_) (fun h_ => ?_)
        · exact hX31 _ _ _ ls h_ hP_ hD_ hS_ (lv_sub hl_ [2] rfl)
        · refine lv_aload_n hx_ hb_ dX2_soundEnd_12 rfl (lv_at hl_ 0 rfl) ?_
          refine lv_iload_n hx_ hb_ dX2_soundEnd_13 rfl (lv_at hl_ 1 rfl) ?_
          refine lv_iload hx_ hb_ dX2_soundEnd_14 (lv_at hl_ 3 rfl) ?_
          obtain ⟨v4, hv4, h_⟩ := jb_i h_
          refine jx_cvi (wr := []) (cw := [(wPa y a eh we), (wAr y (a 2) 100 hf)]) (cw1 := [(wPa y a eh we), (wAr y (a 2) 100 hf)]) (cs1 := [(wPa y a eh we), (wAr y (a 2) 100 hf)]) (As := [.int (jI x1), .int (jI v3)]) (rest := []) ⟨hx_, hb_, hml_, hown_, hts_⟩ hM_ hP_ hD_ hS_ hA_ (List.Perm.refl _) (List.Perm.refl _) (c_X2_isHeard l D y z a eh we hf x1 v3 fu v4 hv4) 2 gX2_soundEnd_X2_isHeard rfl ⟨rfl, rfl⟩ (by decide +kernel) ⟨by rw [hR_]; exact Nat.le_of_ble_eq_true rfl, by rw [hR_]; exact Nat.le_of_ble_eq_true rfl⟩ 0 2 rfl rfl rfl rfl rfl hl_.1 (Nat.le_of_ble_eq_true rfl) dX2_soundEnd_16 ⟨Nat.zero_le _, Nat.zero_le _⟩ (fun H locs hP_ hD_ hS_ => ?_)
          refine jx_if_eq (tgt := 31) hx_ hb_ h_ dX2_soundEnd_19 (by decide) (fun h_ => ?_) (fun h_ => ?_)
          · exact hX31 _ _ _ ls h_ hP_ hD_ hS_ (lv_sub hl_ [2] rfl)
          · refine lv_iload hx_ hb_ dX2_soundEnd_22 (lv_at hl_ 3 rfl) ?_
            refine lv_istore_n (lv' := [(3, .int (jI v3)), (0, .ref (a 0)), (1, .int (jI x1)), (4, .int (jI v3))]) hx_ hb_ dX2_soundEnd_24 rfl hl_ (by decide) rfl (fun ls hl_ => ?_)
            refine lv_iinc (v := jI (v3 + 1)) (lv' := [(4, .int (jI (v3 + 1))), (3, .int (jI v3)), (0, .ref (a 0)), (1, .int (jI x1))]) hx_ hb_ dX2_soundEnd_25 hl_ (k := 3) rfl (jI_add _ _) (by decide) rfl (fun ls hl_ => ?_)
            refine lv_goto (tgt := 5) hx_ hb_ dX2_soundEnd_28 (by decide) ?_
            exact ih5 _ _ _ _ ls h_ hP_ hD_ hS_ (lv_sub hl_ [2, 3, 1, 0] rfl)
    exact hL5 fu _ _ _ _ ls h_ hP_ hD_ hS_ (lv_sub hl_ [2, 3, 1, 0] rfl)
  exact key_ _ (fun v9 H locs pc ls h9_ hdg_ hP_ hD_ hS_ => by cases h9_; exact jend_i hx_ hb_ hr_ hlocks_ hP_ hD_ hS_ hdg_)
def rm_X2_allHoles : Room := { frames := 3, cells := 0, slots := 0, locals := 63 }
set_option maxRecDepth 100000 in
set_option maxHeartbeats 8000000 in
theorem c_X2_allHoles (l : Launch) (D : va_G) (y : Nat → ClassId) (z : Nat → Nat) (a : Nat → Nat) (eh : Int → Int) (we : Int) (hf : Int → Int)  (fu : Nat) (rr : Int) (h_ : f_X2_allHoles fu hf = some rr) : jCI l D y z yX2_allHoles wsX2_allHoles rm_X2_allHoles [.ref (a 0)] [(wPa y a eh we), (wAr y (a 2) 100 hf)] [(wPa y a eh we), (wAr y (a 2) 100 hf)] rr := by
  intro sz
  refine jmet (Qc := (fun A => va_Qi (fun v (_ : Unit) => v = jI rr) (jB D A [(wPa y a eh we), (wAr y (a 2) 100 hf)]) A)) (cc := cX2_allHoles) (maxL := 3) (ret := (some .int)) (own := RX2) (by decide) rfl (Nat.le_of_ble_eq_true rfl) rfl (fun p e s m R args below meth c A ls hR_ hargs_ hx_ hb_ hr_ hlocks_ hml_ hown_ hts_ hname_ hsz_ hP_ hD_ hA_ hM_ hl_ => ?_)
  have key_ : ∀ Q : State → Prop, (∀ (v9 : Int) (H : Heap) (locs : List Loc) (pc : Nat) (ls : Array Slot), some v9 = some rr → decode cX2_allHoles pc = .ok (.ireturn, 1) → va_P D vwCl [(wPa y a eh we), (wAr y (a 2) 100 hf)].flatten H → va_D A [(wPa y a eh we), (wAr y (a 2) 100 hf)].flatten → va_S A s.heap H locs → W p l e R s m args below meth c H locs 0 0 Q (F0 m pc ls [.int (jI v9)])) → W p l e R s m args below meth c s.heap [] 0 0 Q (F0 m 0 ls []) := by
    intro Q hE_
    have hS_ : va_S A s.heap s.heap [] := va_S.rf
    have hl_ : lv_has ls 3 [(0, .ref (a 0))] := hl_
    have hin_ : ∀ w ∈ u_ws RX2 TX2 3, w ∈ wsX2_allHoles := by decide +kernel
    unfold f_X2_allHoles at h_
    refine lv_iconst (v := jI 0) hx_ hb_ dX2_allHoles_0 (by decide +kernel) ?_
    refine lv_istore_n (lv' := [(1, .int (jI 0)), (0, .ref (a 0))]) hx_ hb_ dX2_allHoles_1 rfl hl_ (by decide) rfl (fun ls hl_ => ?_)
    refine lv_iconst (v := jI 0) hx_ hb_ dX2_allHoles_2 (by decide +kernel) ?_
    refine lv_istore_n (lv' := [(2, .int (jI 0)), (1, .int (jI 0)), (0, .ref (a 0))]) hx_ hb_ dX2_allHoles_3 rfl hl_ (by decide) rfl (fun ls hl_ => ?_)
    have hX27 : ∀ (v1 : Int) (H : Heap) (locs : List Loc) (ls : Array Slot), f_X2_allHoles_X27 fu v1 = some rr → va_P D vwCl [(wPa y a eh we), (wAr y (a 2) 100 hf)].flatten H → va_D A [(wPa y a eh we), (wAr y (a 2) 100 hf)].flatten → va_S A s.heap H locs → lv_has ls 3 [(1, .int (jI v1))] → W p l e R s m args below meth c H locs 0 0 Q (F0 m 27 ls []) := by
      intro v1 H locs ls h_ hP_ hD_ hS_ hl_
      unfold f_X2_allHoles_X27 at h_
      refine lv_iload_n hx_ hb_ dX2_allHoles_27 rfl (lv_at hl_ 0 rfl) ?_
      exact hE_ _ _ _ _ _ h_ dX2_allHoles_28 hP_ hD_ hS_
    have hL4 : ∀ n4 : Nat, ∀ (v2 : Int) (v3 : Int) (H : Heap) (locs : List Loc) (ls : Array Slot), f_X2_allHoles_L4 fu hf (f_X2_allHoles_X27 fu) n4 v2 v3 = some rr → va_P D vwCl [(wPa y a eh we), (wAr y (a 2) 100 hf)].flatten H → va_D A [(wPa y a eh we), (wAr y (a 2) 100 hf)].flatten → va_S A s.heap H locs → lv_has ls 3 [(0, .ref (a 0)), (1, .int (jI v2)), (2, .int (jI v3))] → W p l e R s m args below meth c H locs 0 0 Q (F0 m 4 ls []) := by
      intro n4
      induction n4 with
      | zero => intro _ _ H locs ls h_; have h_ : (none : Option (Int)) = some rr := h_; cases h_
      | succ n4 ih4 =>
        intro v2 v3 H locs ls h_ hP_ hD_ hS_ hl_
        replace h_ : f_X2_allHoles_L4_b fu hf (f_X2_allHoles_X27 fu) (f_X2_allHoles_L4 fu hf (f_X2_allHoles_X27 fu) n4) v2 v3 = some rr := h_
        unfold f_X2_allHoles_L4_b at h_
        refine lv_iload_n hx_ hb_ dX2_allHoles_4 rfl (lv_at hl_ 2 rfl) ?_
        refine lv_bipush (v := jI 100) hx_ hb_ dX2_allHoles_5 (by decide +kernel) ?_
        refine jx_icmp_ge (tgt := 27) hx_ hb_ h_ dX2_allHoles_7 (by decide) (fun h_ => ?_) (fun h_ => ?_)
        · exact hX27 _ _ _ ls h_ hP_ hD_ hS_ (lv_sub hl_ [1] rfl)
        · refine lv_iload_n hx_ hb_ dX2_allHoles_10 rfl (lv_at hl_ 1 rfl) ?_
          refine lv_aload_n hx_ hb_ dX2_allHoles_11 rfl (lv_at hl_ 0 rfl) ?_
          refine lv_iload_n hx_ hb_ dX2_allHoles_12 rfl (lv_at hl_ 2 rfl) ?_
          obtain ⟨v4, hv4, h_⟩ := jb_i h_
          refine jx_cvi (wr := []) (cw := [(wPa y a eh we), (wAr y (a 2) 100 hf)]) (cw1 := [(wPa y a eh we), (wAr y (a 2) 100 hf)]) (cs1 := [(wPa y a eh we), (wAr y (a 2) 100 hf)]) (As := [.int (jI v3)]) (rest := [.int (jI v2)]) ⟨hx_, hb_, hml_, hown_, hts_⟩ hM_ hP_ hD_ hS_ hA_ (List.Perm.refl _) (List.Perm.refl _) (c_X2_holesAt l D y z a eh we hf v3 fu v4 hv4) 1 gX2_allHoles_X2_holesAt rfl ⟨rfl, rfl⟩ (by decide +kernel) ⟨by rw [hR_]; exact Nat.le_of_ble_eq_true rfl, by rw [hR_]; exact Nat.le_of_ble_eq_true rfl⟩ 0 2 rfl rfl rfl rfl rfl hl_.1 (Nat.le_of_ble_eq_true rfl) dX2_allHoles_13 ⟨Nat.zero_le _, Nat.zero_le _⟩ (fun H locs hP_ hD_ hS_ => ?_)
          obtain ⟨v5, hv5, h_⟩ := jb_i h_
          refine jx_csi (b := 0) (C := "") (wr := [(wPa y a eh we), (wAr y (a 2) 100 hf)]) (cw := []) (cw1 := []) (cs1 := [(wPa y a eh we), (wAr y (a 2) 100 hf)]) (As := [.int (jI v4)]) (rest := [.int (jI v2)]) ⟨hx_, hb_, hml_, hown_, hts_⟩ hM_ hP_ hD_ hS_ hA_ (List.Perm.of_eq (List.append_nil _).symm) (List.Perm.of_eq (List.append_nil _)) (c_J6_bitCount_0f7a4 l D y z v4 fu v5 hv5) 1 (va_cwS 1 hts_ gX2_allHoles_J6_bitCount_0f7a4 rfl rfl rfl (by decide +kernel) ⟨by rw [hR_]; exact Nat.le_of_ble_eq_true rfl, by rw [hR_]; exact Nat.le_of_ble_eq_true rfl⟩) rfl ⟨rfl, rfl⟩ ⟨by rw [hR_]; exact Nat.le_of_ble_eq_true rfl, by rw [hR_]; exact Nat.le_of_ble_eq_true rfl⟩ rfl rfl hl_.1 (Nat.le_of_ble_eq_true rfl) dX2_allHoles_16 ⟨Nat.zero_le _, Nat.zero_le _⟩ (fun H locs hP_ hD_ hS_ => ?_)
          refine jx_iadd hx_ hb_ dX2_allHoles_19 ?_
          refine lv_istore_n (lv' := [(1, .int (jI (v2 + v5))), (0, .ref (a 0)), (2, .int (jI v3))]) hx_ hb_ dX2_allHoles_20 rfl hl_ (by decide) rfl (fun ls hl_ => ?_)
          refine lv_iinc (v := jI (v3 + 1)) (lv' := [(2, .int (jI (v3 + 1))), (1, .int (jI (v2 + v5))), (0, .ref (a 0))]) hx_ hb_ dX2_allHoles_21 hl_ (k := 2) rfl (jI_add _ _) (by decide) rfl (fun ls hl_ => ?_)
          refine lv_goto (tgt := 4) hx_ hb_ dX2_allHoles_24 (by decide) ?_
          exact ih4 _ _ _ _ ls h_ hP_ hD_ hS_ (lv_sub hl_ [2, 1, 0] rfl)
    exact hL4 fu _ _ _ _ ls h_ hP_ hD_ hS_ (lv_sub hl_ [2, 1, 0] rfl)
  exact key_ _ (fun v9 H locs pc ls h9_ hdg_ hP_ hD_ hS_ => by cases h9_; exact jend_i hx_ hb_ hr_ hlocks_ hP_ hD_ hS_ hdg_)
def rm_X2_weakSteps : Room := { frames := 5, cells := 0, slots := 0, locals := 109 }
set_option maxRecDepth 100000 in
set_option maxHeartbeats 8000000 in
theorem c_X2_weakSteps (l : Launch) (D : va_G) (y : Nat → ClassId) (z : Nat → Nat) (a : Nat → Nat) (eh : Int → Int) (we : Int) (hf : Int → Int)  (fu : Nat) (rr : Int) (h_ : f_X2_weakSteps fu we hf = some rr) : jCI l D y z yX2_weakSteps wsX2_weakSteps rm_X2_weakSteps [.ref (a 0)] [(wPa y a eh we), (wAr y (a 2) 100 hf)] [(wPa y a eh we), (wAr y (a 2) 100 hf)] rr := by
  intro sz
  refine jmet (Qc := (fun A => va_Qi (fun v (_ : Unit) => v = jI rr) (jB D A [(wPa y a eh we), (wAr y (a 2) 100 hf)]) A)) (cc := cX2_weakSteps) (maxL := 3) (ret := (some .int)) (own := RX2) (by decide) rfl (Nat.le_of_ble_eq_true rfl) rfl (fun p e s m R args below meth c A ls hR_ hargs_ hx_ hb_ hr_ hlocks_ hml_ hown_ hts_ hname_ hsz_ hP_ hD_ hA_ hM_ hl_ => ?_)
  have key_ : ∀ Q : State → Prop, (∀ (v9 : Int) (H : Heap) (locs : List Loc) (pc : Nat) (ls : Array Slot), some v9 = some rr → decode cX2_weakSteps pc = .ok (.ireturn, 1) → va_P D vwCl [(wPa y a eh we), (wAr y (a 2) 100 hf)].flatten H → va_D A [(wPa y a eh we), (wAr y (a 2) 100 hf)].flatten → va_S A s.heap H locs → W p l e R s m args below meth c H locs 0 0 Q (F0 m pc ls [.int (jI v9)])) → W p l e R s m args below meth c s.heap [] 0 0 Q (F0 m 0 ls []) := by
    intro Q hE_
    have hS_ : va_S A s.heap s.heap [] := va_S.rf
    have hl_ : lv_has ls 3 [(0, .ref (a 0))] := hl_
    have hin_ : ∀ w ∈ u_ws RX2 TX2 3, w ∈ wsX2_weakSteps := by decide +kernel
    unfold f_X2_weakSteps at h_
    refine lv_iconst (v := jI 0) hx_ hb_ dX2_weakSteps_0 (by decide +kernel) ?_
    refine lv_istore_n (lv' := [(1, .int (jI 0)), (0, .ref (a 0))]) hx_ hb_ dX2_weakSteps_1 rfl hl_ (by decide) rfl (fun ls hl_ => ?_)
    refine lv_iconst (v := jI 0) hx_ hb_ dX2_weakSteps_2 (by decide +kernel) ?_
    refine lv_istore_n (lv' := [(2, .int (jI 0)), (1, .int (jI 0)), (0, .ref (a 0))]) hx_ hb_ dX2_weakSteps_3 rfl hl_ (by decide) rfl (fun ls hl_ => ?_)
    have hX27 : ∀ (v1 : Int) (H : Heap) (locs : List Loc) (ls : Array Slot), f_X2_weakSteps_X27 fu v1 = some rr → va_P D vwCl [(wPa y a eh we), (wAr y (a 2) 100 hf)].flatten H → va_D A [(wPa y a eh we), (wAr y (a 2) 100 hf)].flatten → va_S A s.heap H locs → lv_has ls 3 [(1, .int (jI v1))] → W p l e R s m args below meth c H locs 0 0 Q (F0 m 27 ls []) := by
      intro v1 H locs ls h_ hP_ hD_ hS_ hl_
      unfold f_X2_weakSteps_X27 at h_
      refine lv_iload_n hx_ hb_ dX2_weakSteps_27 rfl (lv_at hl_ 0 rfl) ?_
      exact hE_ _ _ _ _ _ h_ dX2_weakSteps_28 hP_ hD_ hS_
    have hL4 : ∀ n4 : Nat, ∀ (v2 : Int) (v3 : Int) (H : Heap) (locs : List Loc) (ls : Array Slot), f_X2_weakSteps_L4 fu we hf (f_X2_weakSteps_X27 fu) n4 v2 v3 = some rr → va_P D vwCl [(wPa y a eh we), (wAr y (a 2) 100 hf)].flatten H → va_D A [(wPa y a eh we), (wAr y (a 2) 100 hf)].flatten → va_S A s.heap H locs → lv_has ls 3 [(0, .ref (a 0)), (1, .int (jI v2)), (2, .int (jI v3))] → W p l e R s m args below meth c H locs 0 0 Q (F0 m 4 ls []) := by
      intro n4
      induction n4 with
      | zero => intro _ _ H locs ls h_; have h_ : (none : Option (Int)) = some rr := h_; cases h_
      | succ n4 ih4 =>
        intro v2 v3 H locs ls h_ hP_ hD_ hS_ hl_
        replace h_ : f_X2_weakSteps_L4_b fu we hf (f_X2_weakSteps_X27 fu) (f_X2_weakSteps_L4 fu we hf (f_X2_weakSteps_X27 fu) n4) v2 v3 = some rr := h_
        unfold f_X2_weakSteps_L4_b at h_
        refine lv_iload_n hx_ hb_ dX2_weakSteps_4 rfl (lv_at hl_ 2 rfl) ?_
        refine lv_bipush (v := jI 100) hx_ hb_ dX2_weakSteps_5 (by decide +kernel) ?_
        refine jx_icmp_ge (tgt := 27) hx_ hb_ h_ dX2_weakSteps_7 (by decide) (fun h_ => ?_) (fun h_ => ?_)
        · exact hX27 _ _ _ ls h_ hP_ hD_ hS_ (lv_sub hl_ [1] rfl)
        · refine lv_aload_n hx_ hb_ dX2_weakSteps_10 rfl (lv_at hl_ 0 rfl) ?_
          refine lv_iload_n hx_ hb_ dX2_weakSteps_11 rfl (lv_at hl_ 2 rfl) ?_
          obtain ⟨v4, hv4, h_⟩ := jb_i h_
          refine jx_cvi (wr := []) (cw := [(wPa y a eh we), (wAr y (a 2) 100 hf)]) (cw1 := [(wPa y a eh we), (wAr y (a 2) 100 hf)]) (cs1 := [(wPa y a eh we), (wAr y (a 2) 100 hf)]) (As := [.int (jI v3)]) (rest := []) ⟨hx_, hb_, hml_, hown_, hts_⟩ hM_ hP_ hD_ hS_ hA_ (List.Perm.refl _) (List.Perm.refl _) (c_X2_isWeak l D y z a eh we hf v3 fu v4 hv4) 1 gX2_weakSteps_X2_isWeak rfl ⟨rfl, rfl⟩ (by decide +kernel) ⟨by rw [hR_]; exact Nat.le_of_ble_eq_true rfl, by rw [hR_]; exact Nat.le_of_ble_eq_true rfl⟩ 0 2 rfl rfl rfl rfl rfl hl_.1 (Nat.le_of_ble_eq_true rfl) dX2_weakSteps_12 ⟨Nat.zero_le _, Nat.zero_le _⟩ (fun H locs hP_ hD_ hS_ => ?_)
          refine jx_if_eq (tgt := 21) hx_ hb_ h_ dX2_weakSteps_15 (by decide) (fun h_ => ?_) (fun h_ => ?_)
          · refine lv_iinc (v := jI (v3 + 1)) (lv' := [(2, .int (jI (v3 + 1))), (0, .ref (a 0)), (1, .int (jI v2))]) hx_ hb_ dX2_weakSteps_21 hl_ (k := 2) rfl (jI_add _ _) (by decide) rfl (fun ls hl_ => ?_)
            refine lv_goto (tgt := 4) hx_ hb_ dX2_weakSteps_24 (by decide) ?_
            exact ih4 _ _ _ _ ls h_ hP_ hD_ hS_ (lv_sub hl_ [1, 2, 0] rfl)
          · refine lv_iinc (v := jI (v2 + 1)) (lv' := [(1, .int (jI (v2 + 1))), (0, .ref (a 0)), (2, .int (jI v3))]) hx_ hb_ dX2_weakSteps_18 hl_ (k := 1) rfl (jI_add _ _) (by decide) rfl (fun ls hl_ => ?_)
            refine lv_iinc (v := jI (v3 + 1)) (lv' := [(2, .int (jI (v3 + 1))), (1, .int (jI (v2 + 1))), (0, .ref (a 0))]) hx_ hb_ dX2_weakSteps_21 hl_ (k := 2) rfl (jI_add _ _) (by decide) rfl (fun ls hl_ => ?_)
            refine lv_goto (tgt := 4) hx_ hb_ dX2_weakSteps_24 (by decide) ?_
            exact ih4 _ _ _ _ ls h_ hP_ hD_ hS_ (lv_sub hl_ [2, 1, 0] rfl)
    exact hL4 fu _ _ _ _ ls h_ hP_ hD_ hS_ (lv_sub hl_ [2, 1, 0] rfl)
  exact key_ _ (fun v9 H locs pc ls h9_ hdg_ hP_ hD_ hS_ => by cases h9_; exact jend_i hx_ hb_ hr_ hlocks_ hP_ hD_ hS_ hdg_)
def rm_X2_firstWeakStep : Room := { frames := 5, cells := 0, slots := 0, locals := 109 }
set_option maxRecDepth 100000 in
set_option maxHeartbeats 8000000 in
theorem c_X2_firstWeakStep (l : Launch) (D : va_G) (y : Nat → ClassId) (z : Nat → Nat) (a : Nat → Nat) (eh : Int → Int) (we : Int) (hf : Int → Int)  (fu : Nat) (rr : Int) (h_ : f_X2_firstWeakStep fu we hf = some rr) : jCI l D y z yX2_firstWeakStep wsX2_firstWeakStep rm_X2_firstWeakStep [.ref (a 0)] [(wPa y a eh we), (wAr y (a 2) 100 hf)] [(wPa y a eh we), (wAr y (a 2) 100 hf)] rr := by
  intro sz
  refine jmet (Qc := (fun A => va_Qi (fun v (_ : Unit) => v = jI rr) (jB D A [(wPa y a eh we), (wAr y (a 2) 100 hf)]) A)) (cc := cX2_firstWeakStep) (maxL := 2) (ret := (some .int)) (own := RX2) (by decide) rfl (Nat.le_of_ble_eq_true rfl) rfl (fun p e s m R args below meth c A ls hR_ hargs_ hx_ hb_ hr_ hlocks_ hml_ hown_ hts_ hname_ hsz_ hP_ hD_ hA_ hM_ hl_ => ?_)
  have key_ : ∀ Q : State → Prop, (∀ (v9 : Int) (H : Heap) (locs : List Loc) (pc : Nat) (ls : Array Slot), some v9 = some rr → decode cX2_firstWeakStep pc = .ok (.ireturn, 1) → va_P D vwCl [(wPa y a eh we), (wAr y (a 2) 100 hf)].flatten H → va_D A [(wPa y a eh we), (wAr y (a 2) 100 hf)].flatten → va_S A s.heap H locs → W p l e R s m args below meth c H locs 0 0 Q (F0 m pc ls [.int (jI v9)])) → W p l e R s m args below meth c s.heap [] 0 0 Q (F0 m 0 ls []) := by
    intro Q hE_
    have hS_ : va_S A s.heap s.heap [] := va_S.rf
    have hl_ : lv_has ls 2 [(0, .ref (a 0))] := hl_
    have hin_ : ∀ w ∈ u_ws RX2 TX2 3, w ∈ wsX2_firstWeakStep := by decide +kernel
    unfold f_X2_firstWeakStep at h_
    refine lv_iconst (v := jI 0) hx_ hb_ dX2_firstWeakStep_0 (by decide +kernel) ?_
    refine lv_istore_n (lv' := [(1, .int (jI 0)), (0, .ref (a 0))]) hx_ hb_ dX2_firstWeakStep_1 rfl hl_ (by decide) rfl (fun ls hl_ => ?_)
    have hX24 : ∀  (H : Heap) (locs : List Loc) (ls : Array Slot), f_X2_firstWeakStep_X24 fu = some rr → va_P D vwCl [(wPa y a eh we), (wAr y (a 2) 100 hf)].flatten H → va_D A [(wPa y a eh we), (wAr y (a 2) 100 hf)].flatten → va_S A s.heap H locs → lv_has ls 2 [] → W p l e R s m args below meth c H locs 0 0 Q (F0 m 24 ls []) := by
      intro  H locs ls h_ hP_ hD_ hS_ hl_
      unfold f_X2_firstWeakStep_X24 at h_
      refine lv_iconst (v := jI (-1)) hx_ hb_ dX2_firstWeakStep_24 (by decide +kernel) ?_
      exact hE_ _ _ _ _ _ h_ dX2_firstWeakStep_25 hP_ hD_ hS_
    have hL2 : ∀ n2 : Nat, ∀ (v1 : Int) (H : Heap) (locs : List Loc) (ls : Array Slot), f_X2_firstWeakStep_L2 fu we hf (f_X2_firstWeakStep_X24 fu) n2 v1 = some rr → va_P D vwCl [(wPa y a eh we), (wAr y (a 2) 100 hf)].flatten H → va_D A [(wPa y a eh we), (wAr y (a 2) 100 hf)].flatten → va_S A s.heap H locs → lv_has ls 2 [(0, .ref (a 0)), (1, .int (jI v1))] → W p l e R s m args below meth c H locs 0 0 Q (F0 m 2 ls []) := by
      intro n2
      induction n2 with
      | zero => intro _ H locs ls h_; have h_ : (none : Option (Int)) = some rr := h_; cases h_
      | succ n2 ih2 =>
        intro v1 H locs ls h_ hP_ hD_ hS_ hl_
        replace h_ : f_X2_firstWeakStep_L2_b fu we hf (f_X2_firstWeakStep_X24 fu) (f_X2_firstWeakStep_L2 fu we hf (f_X2_firstWeakStep_X24 fu) n2) v1 = some rr := h_
        unfold f_X2_firstWeakStep_L2_b at h_
        refine lv_iload_n hx_ hb_ dX2_firstWeakStep_2 rfl (lv_at hl_ 1 rfl) ?_
        refine lv_bipush (v := jI 100) hx_ hb_ dX2_firstWeakStep_3 (by decide +kernel) ?_
        refine jx_icmp_ge (tgt := 24) hx_ hb_ h_ dX2_firstWeakStep_5 (by decide) (fun h_ => ?_) (fun h_ => ?_)
        · exact hX24  _ _ ls h_ hP_ hD_ hS_ (lv_sub hl_ [] rfl)
        · refine lv_aload_n hx_ hb_ dX2_firstWeakStep_8 rfl (lv_at hl_ 0 rfl) ?_
          refine lv_iload_n hx_ hb_ dX2_firstWeakStep_9 rfl (lv_at hl_ 1 rfl) ?_
          obtain ⟨v2, hv2, h_⟩ := jb_i h_
          refine jx_cvi (wr := []) (cw := [(wPa y a eh we), (wAr y (a 2) 100 hf)]) (cw1 := [(wPa y a eh we), (wAr y (a 2) 100 hf)]) (cs1 := [(wPa y a eh we), (wAr y (a 2) 100 hf)]) (As := [.int (jI v1)]) (rest := []) ⟨hx_, hb_, hml_, hown_, hts_⟩ hM_ hP_ hD_ hS_ hA_ (List.Perm.refl _) (List.Perm.refl _) (c_X2_isWeak l D y z a eh we hf v1 fu v2 hv2) 1 gX2_firstWeakStep_X2_isWeak rfl ⟨rfl, rfl⟩ (by decide +kernel) ⟨by rw [hR_]; exact Nat.le_of_ble_eq_true rfl, by rw [hR_]; exact Nat.le_of_ble_eq_true rfl⟩ 0 2 rfl rfl rfl rfl rfl hl_.1 (Nat.le_of_ble_eq_true rfl) dX2_firstWeakStep_10 ⟨Nat.zero_le _, Nat.zero_le _⟩ (fun H locs hP_ hD_ hS_ => ?_)
          refine jx_if_eq (tgt := 18) hx_ hb_ h_ dX2_firstWeakStep_13 (by decide) (fun h_ => ?_) (fun h_ => ?_)
          · refine lv_iinc (v := jI (v1 + 1)) (lv' := [(1, .int (jI (v1 + 1))), (0, .ref (a 0))]) hx_ hb_ dX2_firstWeakStep_18 hl_ (k := 1) rfl (jI_add _ _) (by decide) rfl (fun ls hl_ => ?_)
            refine lv_goto (tgt := 2) hx_ hb_ dX2_firstWeakStep_21 (by decide) ?_
            exact ih2 _ _ _ ls h_ hP_ hD_ hS_ (lv_sub hl_ [1, 0] rfl)
          · refine lv_iload_n hx_ hb_ dX2_firstWeakStep_16 rfl (lv_at hl_ 1 rfl) ?_
            exact hE_ _ _ _ _ _ h_ dX2_firstWeakStep_17 hP_ hD_ hS_
    exact hL2 fu _ _ _ ls h_ hP_ hD_ hS_ (lv_sub hl_ [1, 0] rfl)
  exact key_ _ (fun v9 H locs pc ls h9_ hdg_ hP_ hD_ hS_ => by cases h9_; exact jend_i hx_ hb_ hr_ hlocks_ hP_ hD_ hS_ hdg_)
