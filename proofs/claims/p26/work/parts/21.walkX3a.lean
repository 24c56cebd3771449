def rm_X3_settingOf : Room := { frames := 1, cells := 0, slots := 0, locals := 22 }
set_option maxRecDepth 100000 in
set_option maxHeartbeats 8000000 in
theorem c_X3_settingOf (l : Launch) (D : va_G) (y : Nat → ClassId) (z : Nat → Nat) (a : Nat → Nat) (se : Int → Int) (tr : Int → Int) (fi : Int → Int) (la : Int → Int) (sh : Int → Int) (ac : Int → Int) (no : Int) (x1 : Int) (fu : Nat) (rr : Int) (h_ : f_X3_settingOf fu se x1 = some rr) : jCI l D y z yX3_settingOf wsX3_settingOf rm_X3_settingOf [.ref (a 0), .int (jI x1)] [(wRo y a se tr fi la sh ac no)] [(wRo y a se tr fi la sh ac no)] rr := by
  intro sz
  refine jmet (Qc := (fun A => va_Qi (fun v (_ : Unit) => v = jI rr) (jB D A [(wRo y a se tr fi la sh ac no)]) A)) (cc := cX3_settingOf) (maxL := 2) (ret := (some .int)) (own := RX3) (by decide) rfl (Nat.le_of_ble_eq_true rfl) rfl (fun p e s m R args below meth c A ls hR_ hargs_ hx_ hb_ hr_ hlocks_ hml_ hown_ hts_ hname_ hsz_ hP_ hD_ hA_ hM_ hl_ => ?_)
  have key_ : ∀ Q : State → Prop, (∀ (v9 : Int) (H : Heap) (locs : List Loc) (pc : Nat) (ls : Array Slot), some v9 = some rr → decode cX3_settingOf pc = .ok (.ireturn, 1) → va_P D vwCl [(wRo y a se tr fi la sh ac no)].flatten H → va_D A [(wRo y a se tr fi la sh ac no)].flatten → va_S A s.heap H locs → W p l e R s m args below meth c H locs 0 0 Q (F0 m pc ls [.int (jI v9)])) → W p l e R s m args below meth c s.heap [] 0 0 Q (F0 m 0 ls []) := by
    intro Q hE_
    have hS_ : va_S A s.heap s.heap [] := va_S.rf
    have hl_ : lv_has ls 2 [(0, .ref (a 0)), (1, .int (jI x1))] := hl_
    have hin_ : ∀ w ∈ u_ws RX3 TX3 7, w ∈ wsX3_settingOf := by decide +kernel
    unfold f_X3_settingOf at h_
    refine lv_iload_n hx_ hb_ dX3_settingOf_0 rfl (lv_at hl_ 1 rfl) ?_
    refine lv_iconst (v := jI 0) hx_ hb_ dX3_settingOf_1 (by decide +kernel) ?_
    refine lv_iconst (v := jI 3) hx_ hb_ dX3_settingOf_2 (by decide +kernel) ?_
    obtain ⟨v1, hv1, h_⟩ := jb_i h_
    refine jx_cni (ws1 := []) (As := [.int (jI x1), .int (jI 0), .int (jI 3)]) (rest := []) ⟨hx_, hb_, hml_, hown_, hts_⟩ hM_ hP_ hD_ hS_ hA_ (c_X4_isIn l D y z x1 0 3 fu v1 hv1) 3 ⟨va_cnB 3 hts_ gX3_settingOf_X4_isIn_n48 rfl rfl rfl hM_.2.1.2.2.2.2 (hts_ (.initialized RX4) (by decide +kernel)) (by decide +kernel) ⟨by rw [hR_]; exact Nat.le_of_ble_eq_true rfl, by rw [hR_]; exact Nat.le_of_ble_eq_true rfl⟩, hts_ (.static yX4_isIn) (by decide +kernel), trivial⟩ rfl rfl hl_.1 (Nat.le_of_ble_eq_true rfl) dX3_settingOf_3 ⟨Nat.zero_le _, Nat.zero_le _⟩ (fun H locs hP_ hD_ hS_ => ?_)
    refine jx_if_eq (tgt := 18) hx_ hb_ h_ dX3_settingOf_6 (by decide) (fun h_ => ?_) (fun h_ => ?_)
    · refine lv_iconst (v := jI 0) hx_ hb_ dX3_settingOf_18 (by decide +kernel) ?_
      exact hE_ _ _ _ _ _ h_ dX3_settingOf_19 hP_ hD_ hS_
    · refine lv_aload_n hx_ hb_ dX3_settingOf_9 rfl (lv_at hl_ 0 rfl) ?_
      refine va_get (D := D) (ci := 3) (v := .ref (a 1)) (C := RX3) (T := TX3) (N := 7) hx_ hb_ hts_ hin_ hown_ hM_.1 hP_ 0 rfl rfl 0 (by decide) (hts_ (.fieldLink RX3 9 "MusicHoles$Roll" "settings" "[I") (by decide +kernel)) (fun _ h9_ => h9_) rfl dX3_settingOf_10 ?_
      refine lv_iload_n hx_ hb_ dX3_settingOf_13 rfl (lv_at hl_ 1 rfl) ?_
      refine jx_iald hx_ hb_ hM_ hP_ 1 0 rfl rfl rfl (Nat.le_of_ble_eq_true rfl) h_ dX3_settingOf_14 (fun h_ => ?_)
      refine lv_goto (tgt := 19) hx_ hb_ dX3_settingOf_15 (by decide) ?_
      exact hE_ _ _ _ _ _ h_ dX3_settingOf_19 hP_ hD_ hS_
  exact key_ _ (fun v9 H locs pc ls h9_ hdg_ hP_ hD_ hS_ => by cases h9_; exact jend_i hx_ hb_ hr_ hlocks_ hP_ hD_ hS_ hdg_)
def rm_X3_takeSettings : Room := { frames := 1, cells := 0, slots := 0, locals := 60 }
set_option maxRecDepth 100000 in
set_option maxHeartbeats 8000000 in
theorem c_X3_takeSettings (l : Launch) (D : va_G) (y : Nat → ClassId) (z : Nat → Nat) (a : Nat → Nat) (b : Nat → Nat) (se : Int → Int) (tr : Int → Int) (fi : Int → Int) (la : Int → Int) (sh : Int → Int) (ac : Int → Int) (no : Int) (o_se : Int → Int) (o_tr : Int → Int) (o_fi : Int → Int) (o_la : Int → Int) (o_sh : Int → Int) (o_ac : Int → Int) (o_no : Int)  (fu : Nat) (q_se : Int → Int) (h_ : f_X3_takeSettings fu se o_se = some q_se) : jCV l D y z yX3_takeSettings wsX3_takeSettings rm_X3_takeSettings [.ref (a 0), .ref (b 0)] [(wRo y a se tr fi la sh ac no), (wRo y b o_se o_tr o_fi o_la o_sh o_ac o_no)] [(wRo y a q_se tr fi la sh ac no), (wRo y b o_se o_tr o_fi o_la o_sh o_ac o_no)] := by
  intro sz
  refine jmet (Qc := (fun A => va_Qv (fun (_ : Unit) => True) (jB D A [(wRo y a q_se tr fi la sh ac no), (wRo y b o_se o_tr o_fi o_la o_sh o_ac o_no)]) A)) (cc := cX3_takeSettings) (maxL := 2) (ret := none) (own := RX3) (by decide) rfl (Nat.le_of_ble_eq_true rfl) rfl (fun p e s m R args below meth c A ls hR_ hargs_ hx_ hb_ hr_ hlocks_ hml_ hown_ hts_ hname_ hsz_ hP_ hD_ hA_ hM_ hl_ => ?_)
  have key_ : ∀ Q : State → Prop, (∀ (se9 : Int → Int) (H : Heap) (locs : List Loc) (pc : Nat) (ls : Array Slot), some se9 = some q_se → decode cX3_takeSettings pc = .ok (.return_, 1) → va_P D vwCl [(wRo y a se9 tr fi la sh ac no), (wRo y b o_se o_tr o_fi o_la o_sh o_ac o_no)].flatten H → va_D A [(wRo y a se9 tr fi la sh ac no), (wRo y b o_se o_tr o_fi o_la o_sh o_ac o_no)].flatten → va_S A s.heap H locs → W p l e R s m args below meth c H locs 0 0 Q (F0 m pc ls [])) → W p l e R s m args below meth c s.heap [] 0 0 Q (F0 m 0 ls []) := by
    intro Q hE_
    have hS_ : va_S A s.heap s.heap [] := va_S.rf
    have hl_ : lv_has ls 2 [(0, .ref (a 0)), (1, .ref (b 0))] := hl_
    have hin_ : ∀ w ∈ u_ws RX3 TX3 7, w ∈ wsX3_takeSettings := by decide +kernel
    unfold f_X3_takeSettings at h_
    refine lv_aload_n hx_ hb_ dX3_takeSettings_0 rfl (lv_at hl_ 1 rfl) ?_
    refine va_get (D := D) (ci := 3) (v := .ref (b 1)) (C := RX3) (T := TX3) (N := 7) hx_ hb_ hts_ hin_ hown_ hM_.1 hP_ 7 rfl rfl 0 (by decide) (hts_ (.fieldLink RX3 9 "MusicHoles$Roll" "settings" "[I") (by decide +kernel)) (fun _ h9_ => h9_) rfl dX3_takeSettings_1 ?_
    refine lv_iconst (v := jI 0) hx_ hb_ dX3_takeSettings_4 (by decide +kernel) ?_
    refine lv_aload_n hx_ hb_ dX3_takeSettings_5 rfl (lv_at hl_ 0 rfl) ?_
    refine va_get (D := D) (ci := 3) (v := .ref (a 1)) (C := RX3) (T := TX3) (N := 7) hx_ hb_ hts_ hin_ hown_ hM_.1 hP_ 0 rfl rfl 0 (by decide) (hts_ (.fieldLink RX3 9 "MusicHoles$Roll" "settings" "[I") (by decide +kernel)) (fun _ h9_ => h9_) rfl dX3_takeSettings_6 ?_
    refine lv_iconst (v := jI 0) hx_ hb_ dX3_takeSettings_9 (by decide +kernel) ?_
    refine lv_iconst (v := jI 4) hx_ hb_ dX3_takeSettings_10 (by decide +kernel) ?_
    refine jx_copy4 hx_ hb_ (hml_.trans hl_.1.symm) hown_ (hts_ (.methodLink RX3 34 arraycopyName) (by decide +kernel)) (hts_ (.native arraycopyName) (by decide +kernel)) (hts_ (.static arraycopyName) (by decide +kernel)) (hts_ (.initialized "java/lang/System") (by decide +kernel)) hM_ hP_ hD_ hS_ 8 1 rfl rfl (by rw [hR_]; exact Nat.le_of_ble_eq_true rfl) (by rw [hR_]; exact Nat.le_of_ble_eq_true rfl) dX3_takeSettings_11 (fun H locs hP_ hD_ hS_ => ?_)
    have hP_ : va_P D vwCl [(wRo y a (jcpy o_se se 4) tr fi la sh ac no), (wRo y b o_se o_tr o_fi o_la o_sh o_ac o_no)].flatten H := hP_
    have hD_ : va_D A [(wRo y a (jcpy o_se se 4) tr fi la sh ac no), (wRo y b o_se o_tr o_fi o_la o_sh o_ac o_no)].flatten := hD_
    exact hE_ _ _ _ _ _ h_ dX3_takeSettings_14 hP_ hD_ hS_
  exact key_ _ (fun se9 H locs pc ls h9_ hdg_ hP_ hD_ hS_ => by cases h9_; exact jend_v hx_ hb_ hr_ hlocks_ hP_ hD_ hS_ hdg_)
def rm_X3_become : Room := { frames := 2, cells := 0, slots := 0, locals := 81 }
set_option maxRecDepth 100000 in
set_option maxHeartbeats 8000000 in
theorem c_X3_become (l : Launch) (D : va_G) (y : Nat → ClassId) (z : Nat → Nat) (a : Nat → Nat) (b : Nat → Nat) (se : Int → Int) (tr : Int → Int) (fi : Int → Int) (la : Int → Int) (sh : Int → Int) (ac : Int → Int) (no : Int) (o_se : Int → Int) (o_tr : Int → Int) (o_fi : Int → Int) (o_la : Int → Int) (o_sh : Int → Int) (o_ac : Int → Int) (o_no : Int)  (fu : Nat) (q_se : Int → Int) (q_tr : Int → Int) (q_fi : Int → Int) (q_la : Int → Int) (q_sh : Int → Int) (q_ac : Int → Int) (q_no : Int) (h_ : f_X3_become fu se tr fi la sh ac no o_se o_tr o_fi o_la o_sh o_ac o_no = some (q_se, q_tr, q_fi, q_la, q_sh, q_ac, q_no)) : jCV l D y z yX3_become wsX3_become rm_X3_become [.ref (a 0), .ref (b 0)] [(wRo y a se tr fi la sh ac no), (wRo y b o_se o_tr o_fi o_la o_sh o_ac o_no)] [(wRo y a q_se q_tr q_fi q_la q_sh q_ac q_no), (wRo y b o_se o_tr o_fi o_la o_sh o_ac o_no)] := by
  intro sz
  refine jmet (Qc := (fun A => va_Qv (fun (_ : Unit) => True) (jB D A [(wRo y a q_se q_tr q_fi q_la q_sh q_ac q_no), (wRo y b o_se o_tr o_fi o_la o_sh o_ac o_no)]) A)) (cc := cX3_become) (maxL := 3) (ret := none) (own := RX3) (by decide) rfl (Nat.le_of_ble_eq_true rfl) rfl (fun p e s m R args below meth c A ls hR_ hargs_ hx_ hb_ hr_ hlocks_ hml_ hown_ hts_ hname_ hsz_ hP_ hD_ hA_ hM_ hl_ => ?_)
  have key_ : ∀ Q : State → Prop, (∀ (se9 : Int → Int) (tr9 : Int → Int) (fi9 : Int → Int) (la9 : Int → Int) (sh9 : Int → Int) (ac9 : Int → Int) (no9 : Int) (H : Heap) (locs : List Loc) (pc : Nat) (ls : Array Slot), some (se9, tr9, fi9, la9, sh9, ac9, no9) = some (q_se, q_tr, q_fi, q_la, q_sh, q_ac, q_no) → decode cX3_become pc = .ok (.return_, 1) → va_P D vwCl [(wRo y a se9 tr9 fi9 la9 sh9 ac9 no9), (wRo y b o_se o_tr o_fi o_la o_sh o_ac o_no)].flatten H → va_D A [(wRo y a se9 tr9 fi9 la9 sh9 ac9 no9), (wRo y b o_se o_tr o_fi o_la o_sh o_ac o_no)].flatten → va_S A s.heap H locs → W p l e R s m args below meth c H locs 0 0 Q (F0 m pc ls [])) → W p l e R s m args below meth c s.heap [] 0 0 Q (F0 m 0 ls []) := by
    intro Q hE_
    have hS_ : va_S A s.heap s.heap [] := va_S.rf
    have hl_ : lv_has ls 3 [(0, .ref (a 0)), (1, .ref (b 0))] := hl_
    have hin_ : ∀ w ∈ u_ws RX3 TX3 7, w ∈ wsX3_become := by decide +kernel
    unfold f_X3_become at h_
    refine lv_aload_n hx_ hb_ dX3_become_0 rfl (lv_at hl_ 0 rfl) ?_
    refine lv_aload_n hx_ hb_ dX3_become_1 rfl (lv_at hl_ 1 rfl) ?_
    obtain ⟨se_m1, hse_m1, h_⟩ := jb_i h_
    refine jx_cvv (rv := 0) (wr := []) (cw := [(wRo y a se tr fi la sh ac no), (wRo y b o_se o_tr o_fi o_la o_sh o_ac o_no)]) (cw1 := [(wRo y a se_m1 tr fi la sh ac no), (wRo y b o_se o_tr o_fi o_la o_sh o_ac o_no)]) (cs1 := [(wRo y a se_m1 tr fi la sh ac no), (wRo y b o_se o_tr o_fi o_la o_sh o_ac o_no)]) (As := [.ref (b 0)]) (rest := []) ⟨hx_, hb_, hml_, hown_, hts_⟩ hM_ hP_ hD_ hS_ hA_ (List.Perm.refl _) (List.Perm.refl _) (c_X3_takeSettings l D y z a b se tr fi la sh ac no o_se o_tr o_fi o_la o_sh o_ac o_no fu se_m1 hse_m1) 1 gX3_become_X3_takeSettings rfl ⟨rfl, rfl⟩ (by decide +kernel) ⟨by rw [hR_]; exact Nat.le_of_ble_eq_true rfl, by rw [hR_]; exact Nat.le_of_ble_eq_true rfl⟩ 0 3 rfl rfl rfl rfl rfl hl_.1 (Nat.le_of_ble_eq_true rfl) dX3_become_2 ⟨Nat.zero_le _, Nat.zero_le _⟩ (fun H locs hP_ hD_ hS_ => ?_)
    refine lv_aload_n hx_ hb_ dX3_become_5 rfl (lv_at hl_ 0 rfl) ?_
    refine lv_aload_n hx_ hb_ dX3_become_6 rfl (lv_at hl_ 1 rfl) ?_
    refine va_get (D := D) (ci := 3) (v := .int (jI o_no)) (C := RX3) (T := TX3) (N := 7) hx_ hb_ hts_ hin_ hown_ hM_.1 hP_ 7 rfl rfl 6 (by decide) (hts_ (.fieldLink RX3 44 "MusicHoles$Roll" "notes" "I") (by decide +kernel)) (fun _ h9_ => h9_) rfl dX3_become_7 ?_
    refine va_put (D := D) (ci := 3) (v := .int (jI o_no)) (ty := .int) (C := RX3) (T := TX3) (N := 7) hx_ hb_ hts_ hin_ tyX3 tyX3_ok nmX3 hown_ hM_.1 hP_ hD_ hS_ 0 rfl rfl 6 (by decide) (hts_ (.fieldLink RX3 44 "MusicHoles$Roll" "notes" "I") (by decide +kernel)) (fun _ h9_ => h9_) rfl (by decide +kernel) rfl rfl (Nat.le_of_ble_eq_true rfl) dX3_become_10 (fun H locs hP_ hD_ hS_ => ?_)
    have hP_ : va_P D vwCl [(wRo y a se_m1 tr fi la sh ac o_no), (wRo y b o_se o_tr o_fi o_la o_sh o_ac o_no)].flatten H := hP_
    have hD_ : va_D A [(wRo y a se_m1 tr fi la sh ac o_no), (wRo y b o_se o_tr o_fi o_la o_sh o_ac o_no)].flatten := hD_
    refine lv_iconst (v := jI 0) hx_ hb_ dX3_become_13 (by decide +kernel) ?_
    refine lv_istore_n (lv' := [(2, .int (jI 0)), (0, .ref (a 0)), (1, .ref (b 0))]) hx_ hb_ dX3_become_14 rfl hl_ (by decide) rfl (fun ls hl_ => ?_)
    have hX87 : ∀ (se_m2 : Int → Int) (tr_m3 : Int → Int) (fi_m4 : Int → Int) (la_m5 : Int → Int) (sh_m6 : Int → Int) (ac_m7 : Int → Int) (no_m8 : Int) (H : Heap) (locs : List Loc) (ls : Array Slot), f_X3_become_X87 fu se_m2 tr_m3 fi_m4 la_m5 sh_m6 ac_m7 no_m8 = some (q_se, q_tr, q_fi, q_la, q_sh, q_ac, q_no) → va_P D vwCl [(wRo y a se_m2 tr_m3 fi_m4 la_m5 sh_m6 ac_m7 no_m8), (wRo y b o_se o_tr o_fi o_la o_sh o_ac o_no)].flatten H → va_D A [(wRo y a se_m2 tr_m3 fi_m4 la_m5 sh_m6 ac_m7 no_m8), (wRo y b o_se o_tr o_fi o_la o_sh o_ac o_no)].flatten → va_S A s.heap H locs → lv_has ls 3 [] → W p l e R s m args below meth c H locs 0 0 Q (F0 m 87 ls []) := by
      intro se_m2 tr_m3 fi_m4 la_m5 sh_m6 ac_m7 no_m8 H locs ls h_ hP_ hD_ hS_ hl_
      unfold f_X3_become_X87 at h_
      exact hE_ _ _ _ _ _ _ _ _ _ _ _ h_ dX3_become_87 hP_ hD_ hS_
    have hL15 : ∀ n15 : Nat, ∀ (se_m9 : Int → Int) (tr_m10 : Int → Int) (fi_m11 : Int → Int) (la_m12 : Int → Int) (sh_m13 : Int → Int) (ac_m14 : Int → Int) (no_m15 : Int) (v16 : Int) (H : Heap) (locs : List Loc) (ls : Array Slot), f_X3_become_L15 fu o_tr o_fi o_la o_sh o_ac (f_X3_become_X87 fu) n15 se_m9 tr_m10 fi_m11 la_m12 sh_m13 ac_m14 no_m15 v16 = some (q_se, q_tr, q_fi, q_la, q_sh, q_ac, q_no) → va_P D vwCl [(wRo y a se_m9 tr_m10 fi_m11 la_m12 sh_m13 ac_m14 no_m15), (wRo y b o_se o_tr o_fi o_la o_sh o_ac o_no)].flatten H → va_D A [(wRo y a se_m9 tr_m10 fi_m11 la_m12 sh_m13 ac_m14 no_m15), (wRo y b o_se o_tr o_fi o_la o_sh o_ac o_no)].flatten → va_S A s.heap H locs → lv_has ls 3 [(0, .ref (a 0)), (1, .ref (b 0)), (2, .int (jI v16))] → W p l e R s m args below meth c H locs 0 0 Q (F0 m 15 ls []) := by
      intro n15
      induction n15 with
      | zero => intro _ _ _ _ _ _ _ _ H locs ls h_; have h_ : (none : Option ((Int → Int) × (Int → Int) × (Int → Int) × (Int → Int) × (Int → Int) × (Int → Int) × Int)) = some (q_se, q_tr, q_fi, q_la, q_sh, q_ac, q_no) := h_; cases h_
      | succ n15 ih15 =>
        intro se_m9 tr_m10 fi_m11 la_m12 sh_m13 ac_m14 no_m15 v16 H locs ls h_ hP_ hD_ hS_ hl_
        replace h_ : f_X3_become_L15_b fu o_tr o_fi o_la o_sh o_ac (f_X3_become_X87 fu) (f_X3_become_L15 fu o_tr o_fi o_la o_sh o_ac (f_X3_become_X87 fu) n15) se_m9 tr_m10 fi_m11 la_m12 sh_m13 ac_m14 no_m15 v16 = some (q_se, q_tr, q_fi, q_la, q_sh, q_ac, q_no) := h_
        unfold f_X3_become_L15_b at h_
        refine lv_iload_n hx_ hb_ dX3_become_15 rfl (lv_at hl_ 2 rfl) ?_
        refine lv_bipush (v := jI 40) hx_ hb_ dX3_become_16 (by decide +kernel) ?_
        refine jx_icmp_ge (tgt := 87) hx_ hb_ h_ dX3_become_18 (by decide) (fun h_ => ?_) (fun h_ => ?_)
        · exact hX87 _ _ _ _ _ _ _ _ _ ls h_ hP_ hD_ hS_ (lv_sub hl_ [] rfl)
        · refine lv_aload_n hx_ hb_ dX3_become_21 rfl (lv_at hl_ 0 rfl) ?_
          refine va_get (D := D) (ci := 3) (v := .ref (a 2)) (C := RX3) (T := TX3) (N := 7) hx_ hb_ hts_ hin_ hown_ hM_.1 hP_ 0 rfl rfl 1 (by decide) (hts_ (.fieldLink RX3 15 "MusicHoles$Roll" "tracks" "[I") (by decide +kernel)) (fun _ h9_ => h9_) rfl dX3_become_22 ?_
          refine lv_iload_n hx_ hb_ dX3_become_25 rfl (lv_at hl_ 2 rfl) ?_
          refine lv_aload_n hx_ hb_ dX3_become_26 rfl (lv_at hl_ 1 rfl) ?_
          refine va_get (D := D) (ci := 3) (v := .ref (b 2)) (C := RX3) (T := TX3) (N := 7) hx_ hb_ hts_ hin_ hown_ hM_.1 hP_ 7 rfl rfl 1 (by decide) (hts_ (.fieldLink RX3 15 "MusicHoles$Roll" "tracks" "[I") (by decide +kernel)) (fun _ h9_ => h9_) rfl dX3_become_27 ?_
          refine lv_iload_n hx_ hb_ dX3_become_30 rfl (lv_at hl_ 2 rfl) ?_
          refine jx_iald hx_ hb_ hM_ hP_ 9 0 rfl rfl rfl (Nat.le_of_ble_eq_true rfl) h_ dX3_become_31 (fun h_ => ?_)
          refine jx_iast hx_ hb_ hM_ hP_ hD_ hS_ 2 0 rfl rfl rfl (Nat.le_of_ble_eq_true rfl) h_ dX3_become_32 (fun H locs h_ hP_ hD_ hS_ => ?_)
          have hP_ : va_P D vwCl [(wRo y a se_m9 (uI tr_m10 v16 (o_tr v16)) fi_m11 la_m12 sh_m13 ac_m14 no_m15), (wRo y b o_se o_tr o_fi o_la o_sh o_ac o_no)].flatten H := hP_
          have hD_ : va_D A [(wRo y a se_m9 (uI tr_m10 v16 (o_tr v16)) fi_m11 la_m12 sh_m13 ac_m14 no_m15), (wRo y b o_se o_tr o_fi o_la o_sh o_ac o_no)].flatten := hD_
          refine lv_aload_n hx_ hb_ dX3_become_33 rfl (lv_at hl_ 0 rfl) ?_
          refine va_get (D := D) (ci := 3) (v := .ref (a 3)) (C := RX3) (T := TX3) (N := 7) hx_ hb_ hts_ hin_ hown_ hM_.1 hP_ 0 rfl rfl 2 (by decide) (hts_ (.fieldLink RX3 18 "MusicHoles$Roll" "firsts" "[I") (by decide +kernel)) (fun _ h9_ => h9_) rfl dX3_become_34 ?_
          refine lv_iload_n hx_ hb_ dX3_become_37 rfl (lv_at hl_ 2 rfl) ?_
          refine lv_aload_n hx_ hb_ dX3_become_38 rfl (lv_at hl_ 1 rfl) ?_
          refine va_get (D := D) (ci := 3) (v := .ref (b 3)) (C := RX3) (T := TX3) (N := 7) hx_ hb_ hts_ hin_ hown_ hM_.1 hP_ 7 rfl rfl 2 (by decide) (hts_ (.fieldLink RX3 18 "MusicHoles$Roll" "firsts" "[I") (by decide +kernel)) (fun _ h9_ => h9_) rfl dX3_become_39 ?_
          refine lv_iload_n hx_ hb_ dX3_become_42 rfl (lv_at hl_ 2 rfl) ?_
          refine jx_iald hx_ hb_ hM_ hP_ 10 0 rfl rfl rfl (Nat.le_of_ble_eq_true rfl) h_ dX3_become_43 (fun h_ => ?_)
          refine jx_iast hx_ hb_ hM_ hP_ hD_ hS_ 3 0 rfl rfl rfl (Nat.le_of_ble_eq_true rfl) h_ dX3_become_44 (fun H locs h_ hP_ hD_ hS_ => ?_)
          have hP_ : va_P D vwCl [(wRo y a se_m9 (uI tr_m10 v16 (o_tr v16)) (uI fi_m11 v16 (o_fi v16)) la_m12 sh_m13 ac_m14 no_m15), (wRo y b o_se o_tr o_fi o_la o_sh o_ac o_no)].flatten H := hP_
          have hD_ : va_D A [(wRo y a se_m9 (uI tr_m10 v16 (o_tr v16)) (uI fi_m11 v16 (o_fi v16)) la_m12 sh_m13 ac_m14 no_m15), (wRo y b o_se o_tr o_fi o_la o_sh o_ac o_no)].flatten := hD_
          refine lv_aload_n hx_ hb_ dX3_become_45 rfl (lv_at hl_ 0 rfl) ?_
          refine va_get (D := D) (ci := 3) (v := .ref (a 4)) (C := RX3) (T := TX3) (N := 7) hx_ hb_ hts_ hin_ hown_ hM_.1 hP_ 0 rfl rfl 3 (by decide) (hts_ (.fieldLink RX3 21 "MusicHoles$Roll" "lasts" "[I") (by decide +kernel)) (fun _ h9_ => h9_) rfl dX3_become_46 ?_
          refine lv_iload_n hx_ hb_ dX3_become_49 rfl (lv_at hl_ 2 rfl) ?_
          refine lv_aload_n hx_ hb_ dX3_become_50 rfl (lv_at hl_ 1 rfl) ?_
          refine va_get (D := D) (ci := 3) (v := .ref (b 4)) (C := RX3) (T := TX3) (N := 7) hx_ hb_ hts_ hin_ hown_ hM_.1 hP_ 7 rfl rfl 3 (by decide) (hts_ (.fieldLink RX3 21 "MusicHoles$Roll" "lasts" "[I") (by decide +kernel)) (fun _ h9_ => h9_) rfl dX3_become_51 ?_
          refine lv_iload_n hx_ hb_ dX3_become_54 rfl (lv_at hl_ 2 rfl) ?_
          refine jx_iald hx_ hb_ hM_ hP_ 11 0 rfl rfl rfl (Nat.le_of_ble_eq_true rfl) h_ dX3_become_55 (fun h_ => ?_)
          refine jx_iast hx_ hb_ hM_ hP_ hD_ hS_ 4 0 rfl rfl rfl (Nat.le_of_ble_eq_true rfl) h_ dX3_become_56 (fun H locs h_ hP_ hD_ hS_ => ?_)
          have hP_ : va_P D vwCl [(wRo y a se_m9 (uI tr_m10 v16 (o_tr v16)) (uI fi_m11 v16 (o_fi v16)) (uI la_m12 v16 (o_la v16)) sh_m13 ac_m14 no_m15), (wRo y b o_se o_tr o_fi o_la o_sh o_ac o_no)].flatten H := hP_
          have hD_ : va_D A [(wRo y a se_m9 (uI tr_m10 v16 (o_tr v16)) (uI fi_m11 v16 (o_fi v16)) (uI la_m12 v16 (o_la v16)) sh_m13 ac_m14 no_m15), (wRo y b o_se o_tr o_fi o_la o_sh o_ac o_no)].flatten := hD_
          refine lv_aload_n hx_ hb_ dX3_become_57 rfl (lv_at hl_ 0 rfl) ?_
          refine va_get (D := D) (ci := 3) (v := .ref (a 5)) (C := RX3) (T := TX3) (N := 7) hx_ hb_ hts_ hin_ hown_ hM_.1 hP_ 0 rfl rfl 4 (by decide) (hts_ (.fieldLink RX3 24 "MusicHoles$Roll" "shifts" "[I") (by decide +kernel)) (fun _ h9_ => h9_) rfl dX3_become_58 ?_
          refine lv_iload_n hx_ hb_ dX3_become_61 rfl (lv_at hl_ 2 rfl) ?_
          refine lv_aload_n hx_ hb_ dX3_become_62 rfl (lv_at hl_ 1 rfl) ?_
          refine va_get (D := D) (ci := 3) (v := .ref (b 5)) (C := RX3) (T := TX3) (N := 7) hx_ hb_ hts_ hin_ hown_ hM_.1 hP_ 7 rfl rfl 4 (by decide) (hts_ (.fieldLink RX3 24 "MusicHoles$Roll" "shifts" "[I") (by decide +kernel)) (fun _ h9_ => h9_) rfl dX3_become_63 ?_
          refine lv_iload_n hx_ hb_ dX3_become_66 rfl (lv_at hl_ 2 rfl) ?_
          refine jx_iald hx_ hb_ hM_ hP_ 12 0 rfl rfl rfl (Nat.le_of_ble_eq_true rfl) h_ dX3_become_67 (fun h_ => ?_)
          refine jx_iast hx_ hb_ hM_ hP_ hD_ hS_ 5 0 rfl rfl rfl (Nat.le_of_ble_eq_true rfl) h_ dX3_become_68 (fun H locs h_ hP_ hD_ hS_ => ?_)
          have hP_ : va_P D vwCl [(wRo y a se_m9 (uI tr_m10 v16 (o_tr v16)) (uI fi_m11 v16 (o_fi v16)) (uI la_m12 v16 (o_la v16)) (uI sh_m13 v16 (o_sh v16)) ac_m14 no_m15), (wRo y b o_se o_tr o_fi o_la o_sh o_ac o_no)].flatten H := hP_
          have hD_ : va_D A [(wRo y a se_m9 (uI tr_m10 v16 (o_tr v16)) (uI fi_m11 v16 (o_fi v16)) (uI la_m12 v16 (o_la v16)) (uI sh_m13 v16 (o_sh v16)) ac_m14 no_m15), (wRo y b o_se o_tr o_fi o_la o_sh o_ac o_no)].flatten := hD_
          refine lv_aload_n hx_ hb_ dX3_become_69 rfl (lv_at hl_ 0 rfl) ?_
          refine va_get (D := D) (ci := 3) (v := .ref (a 6)) (C := RX3) (T := TX3) (N := 7) hx_ hb_ hts_ hin_ hown_ hM_.1 hP_ 0 rfl rfl 5 (by decide) (hts_ (.fieldLink RX3 27 "MusicHoles$Roll" "accents" "[Z") (by decide +kernel)) (fun _ h9_ => h9_) rfl dX3_become_70 ?_
          refine lv_iload_n hx_ hb_ dX3_become_73 rfl (lv_at hl_ 2 rfl) ?_
          refine lv_aload_n hx_ hb_ dX3_become_74 rfl (lv_at hl_ 1 rfl) ?_
          refine va_get (D := D) (ci := 3) (v := .ref (b 6)) (C := RX3) (T := TX3) (N := 7) hx_ hb_ hts_ hin_ hown_ hM_.1 hP_ 7 rfl rfl 5 (by decide) (hts_ (.fieldLink RX3 27 "MusicHoles$Roll" "accents" "[Z") (by decide +kernel)) (fun _ h9_ => h9_) rfl dX3_become_75 ?_
          refine lv_iload_n hx_ hb_ dX3_become_78 rfl (lv_at hl_ 2 rfl) ?_
          refine jx_zald hx_ hb_ hM_ hP_ 13 1 rfl rfl rfl (Nat.le_of_ble_eq_true rfl) h_ dX3_become_79 (fun h_ => ?_)
          refine jx_zast hx_ hb_ hM_ hP_ hD_ hS_ 6 1 rfl rfl rfl (Nat.le_of_ble_eq_true rfl) h_ dX3_become_80 (fun H locs h_ hP_ hD_ hS_ => ?_)
          have hP_ : va_P D vwCl [(wRo y a se_m9 (uI tr_m10 v16 (o_tr v16)) (uI fi_m11 v16 (o_fi v16)) (uI la_m12 v16 (o_la v16)) (uI sh_m13 v16 (o_sh v16)) (uI ac_m14 v16 (o_ac v16)) no_m15), (wRo y b o_se o_tr o_fi o_la o_sh o_ac o_no)].flatten H := hP_
          have hD_ : va_D A [(wRo y a se_m9 (uI tr_m10 v16 (o_tr v16)) (uI fi_m11 v16 (o_fi v16)) (uI la_m12 v16 (o_la v16)) (uI sh_m13 v16 (o_sh v16)) (uI ac_m14 v16 (o_ac v16)) no_m15), (wRo y b o_se o_tr o_fi o_la o_sh o_ac o_no)].flatten := hD_
          refine lv_iinc (v := jI (v16 + 1)) (lv' := [(2, .int (jI (v16 + 1))), (0, .ref (a 0)), (1, .ref (b 0))]) hx_ hb_ dX3_become_81 hl_ (k := 2) rfl (jI_add _ _) (by decide) rfl (fun ls hl_ => ?_)
          refine lv_goto (tgt := 15) hx_ hb_ dX3_become_84 (by decide) ?_
          exact ih15 _ _ _ _ _ _ _ _ _ _ ls h_ hP_ hD_ hS_ (lv_sub hl_ [1, 2, 0] rfl)
    exact hL15 fu _ _ _ _ _ _ _ _ _ _ ls h_ hP_ hD_ hS_ (lv_sub hl_ [1, 2, 0] rfl)
  exact key_ _ (fun se9 tr9 fi9 la9 sh9 ac9 no9 H locs pc ls h9_ hdg_ hP_ hD_ hS_ => by cases h9_; exact jend_v hx_ hb_ hr_ hlocks_ hP_ hD_ hS_ hdg_)
def rm_X3_giveSetting : Room := { frames := 1, cells := 0, slots := 0, locals := 22 }
set_option maxRecDepth 100000 in
set_option maxHeartbeats 8000000 in
theorem c_X3_giveSetting (l : Launch) (D : va_G) (y : Nat → ClassId) (z : Nat → Nat) (a : Nat → Nat) (se : Int → Int) (tr : Int → Int) (fi : Int → Int) (la : Int → Int) (sh : Int → Int) (ac : Int → Int) (no : Int) (x1 : Int) (x2 : Int) (fu : Nat) (q_se : Int → Int) (h_ : f_X3_giveSetting fu se x1 x2 = some q_se) : jCV l D y z yX3_giveSetting wsX3_giveSetting rm_X3_giveSetting [.ref (a 0), .int (jI x1), .int (jI x2)] [(wRo y a se tr fi la sh ac no)] [(wRo y a q_se tr fi la sh ac no)] := by
  intro sz
  refine jmet (Qc := (fun A => va_Qv (fun (_ : Unit) => True) (jB D A [(wRo y a q_se tr fi la sh ac no)]) A)) (cc := cX3_giveSetting) (maxL := 3) (ret := none) (own := RX3) (by decide) rfl (Nat.le_of_ble_eq_true rfl) rfl (fun p e s m R args below meth c A ls hR_ hargs_ hx_ hb_ hr_ hlocks_ hml_ hown_ hts_ hname_ hsz_ hP_ hD_ hA_ hM_ hl_ => ?_)
  have key_ : ∀ Q : State → Prop, (∀ (se9 : Int → Int) (H : Heap) (locs : List Loc) (pc : Nat) (ls : Array Slot), some se9 = some q_se → decode cX3_giveSetting pc = .ok (.return_, 1) → va_P D vwCl [(wRo y a se9 tr fi la sh ac no)].flatten H → va_D A [(wRo y a se9 tr fi la sh ac no)].flatten → va_S A s.heap H locs → W p l e R s m args below meth c H locs 0 0 Q (F0 m pc ls [])) → W p l e R s m args below meth c s.heap [] 0 0 Q (F0 m 0 ls []) := by
    intro Q hE_
    have hS_ : va_S A s.heap s.heap [] := va_S.rf
    have hl_ : lv_has ls 3 [(0, .ref (a 0)), (1, .int (jI x1)), (2, .int (jI x2))] := hl_
    have hin_ : ∀ w ∈ u_ws RX3 TX3 7, w ∈ wsX3_giveSetting := by decide +kernel
    unfold f_X3_giveSetting at h_
    refine lv_iload_n hx_ hb_ dX3_giveSetting_0 rfl (lv_at hl_ 1 rfl) ?_
    refine lv_iconst (v := jI 0) hx_ hb_ dX3_giveSetting_1 (by decide +kernel) ?_
    refine lv_iconst (v := jI 3) hx_ hb_ dX3_giveSetting_2 (by decide +kernel) ?_
    obtain ⟨v1, hv1, h_⟩ := jb_i h_
    refine jx_cni (ws1 := []) (As := [.int (jI x1), .int (jI 0), .int (jI 3)]) (rest := []) ⟨hx_, hb_, hml_, hown_, hts_⟩ hM_ hP_ hD_ hS_ hA_ (c_X4_isIn l D y z x1 0 3 fu v1 hv1) 3 ⟨va_cnB 3 hts_ gX3_giveSetting_X4_isIn_n48 rfl rfl rfl hM_.2.1.2.2.2.2 (hts_ (.initialized RX4) (by decide +kernel)) (by decide +kernel) ⟨by rw [hR_]; exact Nat.le_of_ble_eq_true rfl, by rw [hR_]; exact Nat.le_of_ble_eq_true rfl⟩, hts_ (.static yX4_isIn) (by decide +kernel), trivial⟩ rfl rfl hl_.1 (Nat.le_of_ble_eq_true rfl) dX3_giveSetting_3 ⟨Nat.zero_le _, Nat.zero_le _⟩ (fun H locs hP_ hD_ hS_ => ?_)
    refine jx_if_eq (tgt := 16) hx_ hb_ h_ dX3_giveSetting_6 (by decide) (fun h_ => ?_) (fun h_ => ?_)
    · exact hE_ _ _ _ _ _ h_ dX3_giveSetting_16 hP_ hD_ hS_
    · refine lv_aload_n hx_ hb_ dX3_giveSetting_9 rfl (lv_at hl_ 0 rfl) ?_
      refine va_get (D := D) (ci := 3) (v := .ref (a 1)) (C := RX3) (T := TX3) (N := 7) hx_ hb_ hts_ hin_ hown_ hM_.1 hP_ 0 rfl rfl 0 (by decide) (hts_ (.fieldLink RX3 9 "MusicHoles$Roll" "settings" "[I") (by decide +kernel)) (fun _ h9_ => h9_) rfl dX3_giveSetting_10 ?_
      refine lv_iload_n hx_ hb_ dX3_giveSetting_13 rfl (lv_at hl_ 1 rfl) ?_
      refine lv_iload_n hx_ hb_ dX3_giveSetting_14 rfl (lv_at hl_ 2 rfl) ?_
      refine jx_iast hx_ hb_ hM_ hP_ hD_ hS_ 1 0 rfl rfl rfl (Nat.le_of_ble_eq_true rfl) h_ dX3_giveSetting_15 (fun H locs h_ hP_ hD_ hS_ => ?_)
      have hP_ : va_P D vwCl [(wRo y a (uI se x1 x2) tr fi la sh ac no)].flatten H := hP_
      have hD_ : va_D A [(wRo y a (uI se x1 x2) tr fi la sh ac no)].flatten := hD_
      exact hE_ _ _ _ _ _ h_ dX3_giveSetting_16 hP_ hD_ hS_
  exact key_ _ (fun se9 H locs pc ls h9_ hdg_ hP_ hD_ hS_ => by cases h9_; exact jend_v hx_ hb_ hr_ hlocks_ hP_ hD_ hS_ hdg_)
def rm_X3_size : Room := { frames := 0, cells := 0, slots := 0, locals := 0 }
set_option maxRecDepth 100000 in
set_option maxHeartbeats 8000000 in
theorem c_X3_size (l : Launch) (D : va_G) (y : Nat → ClassId) (z : Nat → Nat) (a : Nat → Nat) (se : Int → Int) (tr : Int → Int) (fi : Int → Int) (la : Int → Int) (sh : Int → Int) (ac : Int → Int) (no : Int)  (fu : Nat) (rr : Int) (h_ : f_X3_size fu no = some rr) : jCI l D y z yX3_size wsX3_size rm_X3_size [.ref (a 0)] [(wRo y a se tr fi la sh ac no)] [(wRo y a se tr fi la sh ac no)] rr := by
  intro sz
  refine jmet (Qc := (fun A => va_Qi (fun v (_ : Unit) => v = jI rr) (jB D A [(wRo y a se tr fi la sh ac no)]) A)) (cc := cX3_size) (maxL := 1) (ret := (some .int)) (own := RX3) (by decide) rfl (Nat.le_of_ble_eq_true rfl) rfl (fun p e s m R args below meth c A ls hR_ hargs_ hx_ hb_ hr_ hlocks_ hml_ hown_ hts_ hname_ hsz_ hP_ hD_ hA_ hM_ hl_ => ?_)
  have key_ : ∀ Q : State → Prop, (∀ (v9 : Int) (H : Heap) (locs : List Loc) (pc : Nat) (ls : Array Slot), some v9 = some rr → decode cX3_size pc = .ok (.ireturn, 1) → va_P D vwCl [(wRo y a se tr fi la sh ac no)].flatten H → va_D A [(wRo y a se tr fi la sh ac no)].flatten → va_S A s.heap H locs → W p l e R s m args below meth c H locs 0 0 Q (F0 m pc ls [.int (jI v9)])) → W p l e R s m args below meth c s.heap [] 0 0 Q (F0 m 0 ls []) := by
    intro Q hE_
    have hS_ : va_S A s.heap s.heap [] := va_S.rf
    have hl_ : lv_has ls 1 [(0, .ref (a 0))] := hl_
    have hin_ : ∀ w ∈ u_ws RX3 TX3 7, w ∈ wsX3_size := by decide +kernel
    unfold f_X3_size at h_
    refine lv_aload_n hx_ hb_ dX3_size_0 rfl (lv_at hl_ 0 rfl) ?_
    refine va_get (D := D) (ci := 3) (v := .int (jI no)) (C := RX3) (T := TX3) (N := 7) hx_ hb_ hts_ hin_ hown_ hM_.1 hP_ 0 rfl rfl 6 (by decide) (hts_ (.fieldLink RX3 44 "MusicHoles$Roll" "notes" "I") (by decide +kernel)) (fun _ h9_ => h9_) rfl dX3_size_1 ?_
    exact hE_ _ _ _ _ _ h_ dX3_size_4 hP_ hD_ hS_
  exact key_ _ (fun v9 H locs pc ls h9_ hdg_ hP_ hD_ hS_ => by cases h9_; exact jend_i hx_ hb_ hr_ hlocks_ hP_ hD_ hS_ hdg_)
def rm_X3_has : Room := { frames := 0, cells := 0, slots := 0, locals := 0 }
set_option maxRecDepth 100000 in
set_option maxHeartbeats 8000000 in
theorem c_X3_has (l : Launch) (D : va_G) (y : Nat → ClassId) (z : Nat → Nat) (a : Nat → Nat) (se : Int → Int) (tr : Int → Int) (fi : Int → Int) (la : Int → Int) (sh : Int → Int) (ac : Int → Int) (no : Int) (x1 : Int) (fu : Nat) (rr : Int) (h_ : f_X3_has fu no x1 = some rr) : jCI l D y z yX3_has wsX3_has rm_X3_has [.ref (a 0), .int (jI x1)] [(wRo y a se tr fi la sh ac no)] [(wRo y a se tr fi la sh ac no)] rr := by
  intro sz
  refine jmet (Qc := (fun A => va_Qi (fun v (_ : Unit) => v = jI rr) (jB D A [(wRo y a se tr fi la sh ac no)]) A)) (cc := cX3_has) (maxL := 2) (ret := (some .boolean)) (own := RX3) (by decide) rfl (Nat.le_of_ble_eq_true rfl) rfl (fun p e s m R args below meth c A ls hR_ hargs_ hx_ hb_ hr_ hlocks_ hml_ hown_ hts_ hname_ hsz_ hP_ hD_ hA_ hM_ hl_ => ?_)
  have key_ : ∀ Q : State → Prop, (∀ (v9 : Int) (H : Heap) (locs : List Loc) (pc : Nat) (ls : Array Slot), some v9 = some rr → (v9 = 0 ∨ v9 = 1) → decode cX3_has pc = .ok (.ireturn, 1) → va_P D vwCl [(wRo y a se tr fi la sh ac no)].flatten H → va_D A [(wRo y a se tr fi la sh ac no)].flatten → va_S A s.heap H locs → W p l e R s m args below meth c H locs 0 0 Q (F0 m pc ls [.int (jI v9)])) → W p l e R s m args below meth c s.heap [] 0 0 Q (F0 m 0 ls []) := by
    intro Q hE_
    have hS_ : va_S A s.heap s.heap [] := va_S.rf
    have hl_ : lv_has ls 2 [(0, .ref (a 0)), (1, .int (jI x1))] := hl_
    have hin_ : ∀ w ∈ u_ws RX3 TX3 7, w ∈ wsX3_has := by decide +kernel
    unfold f_X3_has at h_
    refine lv_iload_n hx_ hb_ dX3_has_0 rfl (lv_at hl_ 1 rfl) ?_
    refine jx_if_lt (tgt := 22) hx_ hb_ h_ dX3_has_1 (by decide) (fun h_ => ?_) (fun h_ => ?_)
    · refine lv_iconst (v := jI 0) hx_ hb_ dX3_has_22 (by decide +kernel) ?_
      obtain ⟨hz_, h_⟩ := jbo_i h_
      exact hE_ _ _ _ _ _ h_ hz_ dX3_has_23 hP_ hD_ hS_
    · refine lv_iload_n hx_ hb_ dX3_has_4 rfl (lv_at hl_ 1 rfl) ?_
      refine lv_aload_n hx_ hb_ dX3_has_5 rfl (lv_at hl_ 0 rfl) ?_
      refine va_get (D := D) (ci := 3) (v := .int (jI no)) (C := RX3) (T := TX3) (N := 7) hx_ hb_ hts_ hin_ hown_ hM_.1 hP_ 0 rfl rfl 6 (by decide) (hts_ (.fieldLink RX3 44 "MusicHoles$Roll" "notes" "I") (by decide +kernel)) (fun _ h9_ => h9_) rfl dX3_has_6 ?_
      refine jx_icmp_ge (tgt := 22) hx_ hb_ h_ dX3_has_9 (by decide) (fun h_ => ?_) (fun h_ => ?_)
      · refine lv_iconst (v := jI 0) hx_ hb_ dX3_has_22 (by decide +kernel) ?_
        obtain ⟨hz_, h_⟩ := jbo_i h_
        exact hE_ _ _ _ _ _ h_ hz_ dX3_has_23 hP_ hD_ hS_
      · refine lv_iload_n hx_ hb_ dX3_has_12 rfl (lv_at hl_ 1 rfl) ?_
        refine lv_bipush (v := jI 40) hx_ hb_ dX3_has_13 (by decide +kernel) ?_
        refine jx_icmp_ge (tgt := 22) hx_ hb_ h_ dX3_has_15 (by decide) (fun h_ => ?_) (fun h_ => ?_)
        · refine lv_iconst (v := jI 0) hx_ hb_ dX3_has_22 (by decide +kernel) ?_
          obtain ⟨hz_, h_⟩ := jbo_i h_
          exact hE_ _ _ _ _ _ h_ hz_ dX3_has_23 hP_ hD_ hS_
        · refine lv_iconst (v := jI 1) hx_ hb_ dX3_has_18 (by decide +kernel) ?_
          refine lv_goto (tgt := 23) hx_ hb_ dX3_has_19 (by decide) ?_
          obtain ⟨hz_, h_⟩ := jbo_i h_
          exact hE_ _ _ _ _ _ h_ hz_ dX3_has_23 hP_ hD_ hS_
  exact key_ _ (fun v9 H locs pc ls h9_ hz_ hdg_ hP_ hD_ hS_ => by cases h9_; exact jend_z hx_ hb_ hr_ hlocks_ hz_ hP_ hD_ hS_ hdg_)
def rm_X3_trackOf : Room := { frames := 1, cells := 0, slots := 0, locals := 21 }
set_option maxRecDepth 100000 in
set_option maxHeartbeats 8000000 in
theorem c_X3_trackOf (l : Launch) (D : va_G) (y : Nat → ClassId) (z : Nat → Nat) (a : Nat → Nat) (se : Int → Int) (tr : Int → Int) (fi : Int → Int) (la : Int → Int) (sh : Int → Int) (ac : Int → Int) (no : Int) (x1 : Int) (fu : Nat) (rr : Int) (h_ : f_X3_trackOf fu tr no x1 = some rr) : jCI l D y z yX3_trackOf wsX3_trackOf rm_X3_trackOf [.ref (a 0), .int (jI x1)] [(wRo y a se tr fi la sh ac no)] [(wRo y a se tr fi la sh ac no)] rr := by
  intro sz
  refine jmet (Qc := (fun A => va_Qi (fun v (_ : Unit) => v = jI rr) (jB D A [(wRo y a se tr fi la sh ac no)]) A)) (cc := cX3_trackOf) (maxL := 2) (ret := (some .int)) (own := RX3) (by decide) rfl (Nat.le_of_ble_eq_true rfl) rfl (fun p e s m R args below meth c A ls hR_ hargs_ hx_ hb_ hr_ hlocks_ hml_ hown_ hts_ hname_ hsz_ hP_ hD_ hA_ hM_ hl_ => ?_)
  have key_ : ∀ Q : State → Prop, (∀ (v9 : Int) (H : Heap) (locs : List Loc) (pc : Nat) (ls : Array Slot), some v9 = some rr → decode cX3_trackOf pc = .ok (.ireturn, 1) → va_P D vwCl [(wRo y a se tr fi la sh ac no)].flatten H → va_D A [(wRo y a se tr fi la sh ac no)].flatten → va_S A s.heap H locs → W p l e R s m args below meth c H locs 0 0 Q (F0 m pc ls [.int (jI v9)])) → W p l e R s m args below meth c s.heap [] 0 0 Q (F0 m 0 ls []) := by
    intro Q hE_
    have hS_ : va_S A s.heap s.heap [] := va_S.rf
    have hl_ : lv_has ls 2 [(0, .ref (a 0)), (1, .int (jI x1))] := hl_
    have hin_ : ∀ w ∈ u_ws RX3 TX3 7, w ∈ wsX3_trackOf := by decide +kernel
    unfold f_X3_trackOf at h_
    refine lv_aload_n hx_ hb_ dX3_trackOf_0 rfl (lv_at hl_ 0 rfl) ?_
    refine lv_iload_n hx_ hb_ dX3_trackOf_1 rfl (lv_at hl_ 1 rfl) ?_
    obtain ⟨v1, hv1, h_⟩ := jb_i h_
    refine jx_cvi (wr := []) (cw := [(wRo y a se tr fi la sh ac no)]) (cw1 := [(wRo y a se tr fi la sh ac no)]) (cs1 := [(wRo y a se tr fi la sh ac no)]) (As := [.int (jI x1)]) (rest := []) ⟨hx_, hb_, hml_, hown_, hts_⟩ hM_ hP_ hD_ hS_ hA_ (List.Perm.refl _) (List.Perm.refl _) (c_X3_has l D y z a se tr fi la sh ac no x1 fu v1 hv1) 1 gX3_trackOf_X3_has rfl ⟨rfl, rfl⟩ (by decide +kernel) ⟨by rw [hR_]; exact Nat.le_of_ble_eq_true rfl, by rw [hR_]; exact Nat.le_of_ble_eq_true rfl⟩ 0 3 rfl rfl rfl rfl rfl hl_.1 (Nat.le_of_ble_eq_true rfl) dX3_trackOf_2 ⟨Nat.zero_le _, Nat.zero_le _⟩ (fun H locs hP_ hD_ hS_ => ?_)
    refine jx_if_eq (tgt := 17) hx_ hb_ h_ dX3_trackOf_5 (by decide) (fun h_ => ?_) (fun h_ => ?_)
    · refine lv_iconst (v := jI 0) hx_ hb_ dX3_trackOf_17 (by decide +kernel) ?_
      exact hE_ _ _ _ _ _ h_ dX3_trackOf_18 hP_ hD_ hS_
    · refine lv_aload_n hx_ hb_ dX3_trackOf_8 rfl (lv_at hl_ 0 rfl) ?_
      refine va_get (D := D) (ci := 3) (v := .ref (a 2)) (C := RX3) (T := TX3) (N := 7) hx_ hb_ hts_ hin_ hown_ hM_.1 hP_ 0 rfl rfl 1 (by decide) (hts_ (.fieldLink RX3 15 "MusicHoles$Roll" "tracks" "[I") (by decide +kernel)) (fun _ h9_ => h9_) rfl dX3_trackOf_9 ?_
      refine lv_iload_n hx_ hb_ dX3_trackOf_12 rfl (lv_at hl_ 1 rfl) ?_
      refine jx_iald hx_ hb_ hM_ hP_ 2 0 rfl rfl rfl (Nat.le_of_ble_eq_true rfl) h_ dX3_trackOf_13 (fun h_ => ?_)
      refine lv_goto (tgt := 18) hx_ hb_ dX3_trackOf_14 (by decide) ?_
      exact hE_ _ _ _ _ _ h_ dX3_trackOf_18 hP_ hD_ hS_
  exact key_ _ (fun v9 H locs pc ls h9_ hdg_ hP_ hD_ hS_ => by cases h9_; exact jend_i hx_ hb_ hr_ hlocks_ hP_ hD_ hS_ hdg_)
def rm_X3_firstOf : Room := { frames := 1, cells := 0, slots := 0, locals := 21 }
set_option maxRecDepth 100000 in
set_option maxHeartbeats 8000000 in
theorem c_X3_firstOf (l : Launch) (D : va_G) (y : Nat → ClassId) (z : Nat → Nat) (a : Nat → Nat) (se : Int → Int) (tr : Int → Int) (fi : Int → Int) (la : Int → Int) (sh : Int → Int) (ac : Int → Int) (no : Int) (x1 : Int) (fu : Nat) (rr : Int) (h_ : f_X3_firstOf fu fi no x1 = some rr) : jCI l D y z yX3_firstOf wsX3_firstOf rm_X3_firstOf [.ref (a 0), .int (jI x1)] [(wRo y a se tr fi la sh ac no)] [(wRo y a se tr fi la sh ac no)] rr := by
  intro sz
  refine jmet (Qc := (fun A => va_Qi (fun v (_ : Unit) => v = jI rr) (jB D A [(wRo y a se tr fi la sh ac no)]) A)) (cc := cX3_firstOf) (maxL := 2) (ret := (some .int)) (own := RX3) (by decide) rfl (Nat.le_of_ble_eq_true rfl) rfl (fun p e s m R args below meth c A ls hR_ hargs_ hx_ hb_ hr_ hlocks_ hml_ hown_ hts_ hname_ hsz_ hP_ hD_ hA_ hM_ hl_ => ?_)
  have key_ : ∀ Q : State → Prop, (∀ (v9 : Int) (H : Heap) (locs : List Loc) (pc : Nat) (ls : Array Slot), some v9 = some rr → decode cX3_firstOf pc = .ok (.ireturn, 1) → va_P D vwCl [(wRo y a se tr fi la sh ac no)].flatten H → va_D A [(wRo y a se tr fi la sh ac no)].flatten → va_S A s.heap H locs → W p l e R s m args below meth c H locs 0 0 Q (F0 m pc ls [.int (jI v9)])) → W p l e R s m args below meth c s.heap [] 0 0 Q (F0 m 0 ls []) := by
    intro Q hE_
    have hS_ : va_S A s.heap s.heap [] := va_S.rf
    have hl_ : lv_has ls 2 [(0, .ref (a 0)), (1, .int (jI x1))] := hl_
    have hin_ : ∀ w ∈ u_ws RX3 TX3 7, w ∈ wsX3_firstOf := by decide +kernel
    unfold f_X3_firstOf at h_
    refine lv_aload_n hx_ hb_ dX3_firstOf_0 rfl (lv_at hl_ 0 rfl) ?_
    refine lv_iload_n hx_ hb_ dX3_firstOf_1 rfl (lv_at hl_ 1 rfl) ?_
    obtain ⟨v1, hv1, h_⟩ := jb_i h_
    refine jx_cvi (wr := []) (cw := [(wRo y a se tr fi la sh ac no)]) (cw1 := [(wRo y a se tr fi la sh ac no)]) (cs1 := [(wRo y a se tr fi la sh ac no)]) (As := [.int (jI x1)]) (rest := []) ⟨hx_, hb_, hml_, hown_, hts_⟩ hM_ hP_ hD_ hS_ hA_ (List.Perm.refl _) (List.Perm.refl _) (c_X3_has l D y z a se tr fi la sh ac no x1 fu v1 hv1) 1 gX3_firstOf_X3_has rfl ⟨rfl, rfl⟩ (by decide +kernel) ⟨by rw [hR_]; exact Nat.le_of_ble_eq_true rfl, by rw [hR_]; exact Nat.le_of_ble_eq_true rfl⟩ 0 3 rfl rfl rfl rfl rfl hl_.1 (Nat.le_of_ble_eq_true rfl) dX3_firstOf_2 ⟨Nat.zero_le _, Nat.zero_le _⟩ (fun H locs hP_ hD_ hS_ => ?_)
    refine jx_if_eq (tgt := 17) hx_ hb_ h_ dX3_firstOf_5 (by decide) (fun h_ => ?_) (fun h_ => ?_)
    · refine lv_iconst (v := jI 0) hx_ hb_ dX3_firstOf_17 (by decide +kernel) ?_
      exact hE_ _ _ _ _ _ h_ dX3_firstOf_18 hP_ hD_ hS_
    · refine lv_aload_n hx_ hb_ dX3_firstOf_8 rfl (lv_at hl_ 0 rfl) ?_
      refine va_get (D := D) (ci := 3) (v := .ref (a 3)) (C := RX3) (T := TX3) (N := 7) hx_ hb_ hts_ hin_ hown_ hM_.1 hP_ 0 rfl rfl 2 (by decide) (hts_ (.fieldLink RX3 18 "MusicHoles$Roll" "firsts" "[I") (by decide +kernel)) (fun _ h9_ => h9_) rfl dX3_firstOf_9 ?_
      refine lv_iload_n hx_ hb_ dX3_firstOf_12 rfl (lv_at hl_ 1 rfl) ?_
      refine jx_iald hx_ hb_ hM_ hP_ 3 0 rfl rfl rfl (Nat.le_of_ble_eq_true rfl) h_ dX3_firstOf_13 (fun h_ => ?_)
      refine lv_goto (tgt := 18) hx_ hb_ dX3_firstOf_14 (by decide) ?_
      exact hE_ _ _ _ _ _ h_ dX3_firstOf_18 hP_ hD_ hS_
  exact key_ _ (fun v9 H locs pc ls h9_ hdg_ hP_ hD_ hS_ => by cases h9_; exact jend_i hx_ hb_ hr_ hlocks_ hP_ hD_ hS_ hdg_)
def rm_X3_lastOf : Room := { frames := 1, cells := 0, slots := 0, locals := 21 }
set_option maxRecDepth 100000 in
set_option maxHeartbeats 8000000 in
theorem c_X3_lastOf (l : Launch) (D : va_G) (y : Nat → ClassId) (z : Nat → Nat) (a : Nat → Nat) (se : Int → Int) (tr : Int → Int) (fi : Int → Int) (la : Int → Int) (sh : Int → Int) (ac : Int → Int) (no : Int) (x1 : Int) (fu : Nat) (rr : Int) (h_ : f_X3_lastOf fu la no x1 = some rr) : jCI l D y z yX3_lastOf wsX3_lastOf rm_X3_lastOf [.ref (a 0), .int (jI x1)] [(wRo y a se tr fi la sh ac no)] [(wRo y a se tr fi la sh ac no)] rr := by
  intro sz
  refine jmet (Qc := (fun A => va_Qi (fun v (_ : Unit) => v = jI rr) (jB D A [(wRo y a se tr fi la sh ac no)]) A)) (cc := cX3_lastOf) (maxL := 2) (ret := (some .int)) (own := RX3) (by decide) rfl (Nat.le_of_ble_eq_true rfl) rfl (fun p e s m R args below meth c A ls hR_ hargs_ hx_ hb_ hr_ hlocks_ hml_ hown_ hts_ hname_ hsz_ hP_ hD_ hA_ hM_ hl_ => ?_)
  have key_ : ∀ Q : State → Prop, (∀ (v9 : Int) (H : Heap) (locs : List Loc) (pc : Nat) (ls : Array Slot), some v9 = some rr → decode cX3_lastOf pc = .ok (.ireturn, 1) → va_P D vwCl [(wRo y a se tr fi la sh ac no)].flatten H → va_D A [(wRo y a se tr fi la sh ac no)].flatten → va_S A s.heap H locs → W p l e R s m args below meth c H locs 0 0 Q (F0 m pc ls [.int (jI v9)])) → W p l e R s m args below meth c s.heap [] 0 0 Q (F0 m 0 ls []) := by
    intro Q hE_
    have hS_ : va_S A s.heap s.heap [] := va_S.rf
    have hl_ : lv_has ls 2 [(0, .ref (a 0)), (1, .int (jI x1))] := hl_
    have hin_ : ∀ w ∈ u_ws RX3 TX3 7, w ∈ wsX3_lastOf := by decide +kernel
    unfold f_X3_lastOf at h_
    refine lv_aload_n hx_ hb_ dX3_lastOf_0 rfl (lv_at hl_ 0 rfl) ?_
    refine lv_iload_n hx_ hb_ dX3_lastOf_1 rfl (lv_at hl_ 1 rfl) ?_
    obtain ⟨v1, hv1, h_⟩ := jb_i h_
    refine jx_cvi (wr := []) (cw := [(wRo y a se tr fi la sh ac no)]) (cw1 := [(wRo y a se tr fi la sh ac no)]) (cs1 := [(wRo y a se tr fi la sh ac no)]) (As := [.int (jI x1)]) (rest := []) ⟨hx_, hb_, hml_, hown_, hts_⟩ hM_ hP_ hD_ hS_ hA_ (List.Perm.refl _) (List.Perm.refl _) (c_X3_has l D y z a se tr fi la sh ac no x1 fu v1 hv1) 1 gX3_lastOf_X3_has rfl ⟨rfl, rfl⟩ (by decide +kernel) ⟨by rw [hR_]; exact Nat.le_of_ble_eq_true rfl, by rw [hR_]; exact Nat.le_of_ble_eq_true rfl⟩ 0 3 rfl rfl rfl rfl rfl hl_.1 (Nat.le_of_ble_eq_true rfl) dX3_lastOf_2 ⟨Nat.zero_le _, Nat.zero_le _⟩ (fun H locs hP_ hD_ hS_ => ?_)
    refine jx_if_eq (tgt := 17) hx_ hb_ h_ dX3_lastOf_5 (by decide) (fun h_ => ?_) (fun h_ => ?_)
    · refine lv_iconst (v := jI 0) hx_ hb_ dX3_lastOf_17 (by decide +kernel) ?_
      exact hE_ _ _ _ _ _ h_ dX3_lastOf_18 hP_ hD_ hS_
    · refine lv_aload_n hx_ hb_ dX3_lastOf_8 rfl (lv_at hl_ 0 rfl) ?_
      refine va_get (D := D) (ci := 3) (v := .ref (a 4)) (C := RX3) (T := TX3) (N := 7) hx_ hb_ hts_ hin_ hown_ hM_.1 hP_ 0 rfl rfl 3 (by decide) (hts_ (.fieldLink RX3 21 "MusicHoles$Roll" "lasts" "[I") (by decide +kernel)) (fun _ h9_ => h9_) rfl dX3_lastOf_9 ?_
      refine lv_iload_n hx_ hb_ dX3_lastOf_12 rfl (lv_at hl_ 1 rfl) ?_
      refine jx_iald hx_ hb_ hM_ hP_ 4 0 rfl rfl rfl (Nat.le_of_ble_eq_true rfl) h_ dX3_lastOf_13 (fun h_ => ?_)
      refine lv_goto (tgt := 18) hx_ hb_ dX3_lastOf_14 (by decide) ?_
      exact hE_ _ _ _ _ _ h_ dX3_lastOf_18 hP_ hD_ hS_
  exact key_ _ (fun v9 H locs pc ls h9_ hdg_ hP_ hD_ hS_ => by cases h9_; exact jend_i hx_ hb_ hr_ hlocks_ hP_ hD_ hS_ hdg_)
def rm_X3_touching : Room := { frames := 2, cells := 0, slots := 0, locals := 42 }
set_option maxRecDepth 100000 in
set_option maxHeartbeats 8000000 in
theorem c_X3_touching (l : Launch) (D : va_G) (y : Nat → ClassId) (z : Nat → Nat) (a : Nat → Nat) (se : Int → Int) (tr : Int → Int) (fi : Int → Int) (la : Int → Int) (sh : Int → Int) (ac : Int → Int) (no : Int) (x1 : Int) (x2 : Int) (x3 : Int) (fu : Nat) (rr : Int) (h_ : f_X3_touching fu tr fi la no x1 x2 x3 = some rr) : jCI l D y z yX3_touching wsX3_touching rm_X3_touching [.ref (a 0), .int (jI x1), .int (jI x2), .int (jI x3)] [(wRo y a se tr fi la sh ac no)] [(wRo y a se tr fi la sh ac no)] rr := by
  intro sz
  refine jmet (Qc := (fun A => va_Qi (fun v (_ : Unit) => v = jI rr) (jB D A [(wRo y a se tr fi la sh ac no)]) A)) (cc := cX3_touching) (maxL := 6) (ret := (some .int)) (own := RX3) (by decide) rfl (Nat.le_of_ble_eq_true rfl) rfl (fun p e s m R args below meth c A ls hR_ hargs_ hx_ hb_ hr_ hlocks_ hml_ hown_ hts_ hname_ hsz_ hP_ hD_ hA_ hM_ hl_ => ?_)
  have key_ : ∀ Q : State → Prop, (∀ (v9 : Int) (H : Heap) (locs : List Loc) (pc : Nat) (ls : Array Slot), some v9 = some rr → decode cX3_touching pc = .ok (.ireturn, 1) → va_P D vwCl [(wRo y a se tr fi la sh ac no)].flatten H → va_D A [(wRo y a se tr fi la sh ac no)].flatten → va_S A s.heap H locs → W p l e R s m args below meth c H locs 0 0 Q (F0 m pc ls [.int (jI v9)])) → W p l e R s m args below meth c s.heap [] 0 0 Q (F0 m 0 ls []) := by
    intro Q hE_
    have hS_ : va_S A s.heap s.heap [] := va_S.rf
    have hl_ : lv_has ls 6 [(0, .ref (a 0)), (1, .int (jI x1)), (2, .int (jI x2)), (3, .int (jI x3))] := hl_
    have hin_ : ∀ w ∈ u_ws RX3 TX3 7, w ∈ wsX3_touching := by decide +kernel
    unfold f_X3_touching at h_
    refine lv_iconst (v := jI 0) hx_ hb_ dX3_touching_0 (by decide +kernel) ?_
    refine lv_istore (lv' := [(4, .int (jI 0)), (0, .ref (a 0)), (1, .int (jI x1)), (2, .int (jI x2)), (3, .int (jI x3))]) hx_ hb_ dX3_touching_1 hl_ (by decide) rfl (fun ls hl_ => ?_)
    refine lv_iconst (v := jI 0) hx_ hb_ dX3_touching_3 (by decide +kernel) ?_
    refine lv_istore (lv' := [(5, .int (jI 0)), (4, .int (jI 0)), (0, .ref (a 0)), (1, .int (jI x1)), (2, .int (jI x2)), (3, .int (jI x3))]) hx_ hb_ dX3_touching_4 hl_ (by decide) rfl (fun ls hl_ => ?_)
    have hX54 : ∀ (v1 : Int) (H : Heap) (locs : List Loc) (ls : Array Slot), f_X3_touching_X54 fu v1 = some rr → va_P D vwCl [(wRo y a se tr fi la sh ac no)].flatten H → va_D A [(wRo y a se tr fi la sh ac no)].flatten → va_S A s.heap H locs → lv_has ls 6 [(4, .int (jI v1))] → W p l e R s m args below meth c H locs 0 0 Q (F0 m 54 ls []) := by
      intro v1 H locs ls h_ hP_ hD_ hS_ hl_
      unfold f_X3_touching_X54 at h_
      refine lv_iload hx_ hb_ dX3_touching_54 (lv_at hl_ 0 rfl) ?_
      exact hE_ _ _ _ _ _ h_ dX3_touching_56 hP_ hD_ hS_
    have hL6 : ∀ n6 : Nat, ∀ (v2 : Int) (v3 : Int) (H : Heap) (locs : List Loc) (ls : Array Slot), f_X3_touching_L6 fu tr fi la no x1 x2 x3 (f_X3_touching_X54 fu) n6 v2 v3 = some rr → va_P D vwCl [(wRo y a se tr fi la sh ac no)].flatten H → va_D A [(wRo y a se tr fi la sh ac no)].flatten → va_S A s.heap H locs → lv_has ls 6 [(0, .ref (a 0)), (1, .int (jI x1)), (2, .int (jI x2)), (3, .int (jI x3)), (4, .int (jI v2)), (5, .int (jI v3))] → W p l e R s m args below meth c H locs 0 0 Q (F0 m 6 ls []) := by
      intro n6
      induction n6 with
      | zero => intro _ _ H locs ls h_; have h_ : (none : Option (Int)) = some rr := h_; cases h_
      | succ n6 ih6 =>
        intro v2 v3 H locs ls h_ hP_ hD_ hS_ hl_
        replace h_ : f_X3_touching_L6_b fu tr fi la no x1 x2 x3 (f_X3_touching_X54 fu) (f_X3_touching_L6 fu tr fi la no x1 x2 x3 (f_X3_touching_X54 fu) n6) v2 v3 = some rr := h_
        unfold f_X3_touching_L6_b at h_
        refine lv_iload hx_ hb_ dX3_touching_6 (lv_at hl_ 5 rfl) ?_
        refine lv_aload_n hx_ hb_ dX3_touching_8 rfl (lv_at hl_ 0 rfl) ?_
        refine va_get (D := D) (ci := 3) (v := .int (jI no)) (C := RX3) (T := TX3) (N := 7) hx_ hb_ hts_ hin_ hown_ hM_.1 hP_ 0 rfl rfl 6 (by decide) (hts_ (.fieldLink RX3 44 "MusicHoles$Roll" "notes" "I") (by decide +kernel)) (fun _ h9_ => h9_) rfl dX3_touching_9 ?_
        refine jx_icmp_ge (tgt := 54) hx_ hb_ h_ dX3_touching_12 (by decide) (fun h_ => ?_) (fun h_ => ?_)
        · exact hX54 _ _ _ ls h_ hP_ hD_ hS_ (lv_sub hl_ [4] rfl)
        · refine lv_aload_n hx_ hb_ dX3_touching_15 rfl (lv_at hl_ 0 rfl) ?_
          refine lv_iload hx_ hb_ dX3_touching_16 (lv_at hl_ 5 rfl) ?_
          obtain ⟨v4, hv4, h_⟩ := jb_i h_
          refine jx_cvi (wr := []) (cw := [(wRo y a se tr fi la sh ac no)]) (cw1 := [(wRo y a se tr fi la sh ac no)]) (cs1 := [(wRo y a se tr fi la sh ac no)]) (As := [.int (jI v3)]) (rest := []) ⟨hx_, hb_, hml_, hown_, hts_⟩ hM_ hP_ hD_ hS_ hA_ (List.Perm.refl _) (List.Perm.refl _) (c_X3_trackOf l D y z a se tr fi la sh ac no v3 fu v4 hv4) 1 gX3_touching_X3_trackOf rfl ⟨rfl, rfl⟩ (by decide +kernel) ⟨by rw [hR_]; exact Nat.le_of_ble_eq_true rfl, by rw [hR_]; exact Nat.le_of_ble_eq_true rfl⟩ 0 3 rfl rfl rfl rfl rfl hl_.1 (Nat.le_of_ble_eq_true rfl) dX3_touching_18 ⟨Nat.zero_le _, Nat.zero_le _⟩ (fun H locs hP_ hD_ hS_ => ?_)
          refine lv_iload_n hx_ hb_ dX3_touching_21 rfl (lv_at hl_ 1 rfl) ?_
          refine jx_icmp_ne (tgt := 48) hx_ hb_ h_ dX3_touching_22 (by decide) (fun h_ => ?_) (fun h_ => ?_)
          · refine lv_iinc (v := jI (v3 + 1)) (lv' := [(5, .int (jI (v3 + 1))), (0, .ref (a 0)), (1, .int (jI x1)), (2, .int (jI x2)), (3, .int (jI x3)), (4, .int (jI v2))]) hx_ hb_ dX3_touching_48 hl_ (k := 5) rfl (jI_add _ _) (by decide) rfl (fun ls hl_ => ?_)
            refine lv_goto (tgt := 6) hx_ hb_ dX3_touching_51 (by decide) ?_
            exact ih6 _ _ _ _ ls h_ hP_ hD_ hS_ (lv_sub hl_ [1, 2, 3, 4, 5, 0] rfl)
          · refine lv_aload_n hx_ hb_ dX3_touching_25 rfl (lv_at hl_ 0 rfl) ?_
            refine lv_iload hx_ hb_ dX3_touching_26 (lv_at hl_ 5 rfl) ?_
            obtain ⟨v5, hv5, h_⟩ := jb_i h_
            refine jx_cvi (wr := []) (cw := [(wRo y a se tr fi la sh ac no)]) (cw1 := [(wRo y a se tr fi la sh ac no)]) (cs1 := [(wRo y a se tr fi la sh ac no)]) (As := [.int (jI v3)]) (rest := []) ⟨hx_, hb_, hml_, hown_, hts_⟩ hM_ hP_ hD_ hS_ hA_ (List.Perm.refl _) (List.Perm.refl _) (c_X3_firstOf l D y z a se tr fi la sh ac no v3 fu v5 hv5) 1 gX3_touching_X3_firstOf rfl ⟨rfl, rfl⟩ (by decide +kernel) ⟨by rw [hR_]; exact Nat.le_of_ble_eq_true rfl, by rw [hR_]; exact Nat.le_of_ble_eq_true rfl⟩ 0 3 rfl rfl rfl rfl rfl hl_.1 (Nat.le_of_ble_eq_true rfl) dX3_touching_28 ⟨Nat.zero_le _, Nat.zero_le _⟩ (fun H locs hP_ hD_ hS_ => ?_)
            refine lv_iload_n hx_ hb_ dX3_touching_31 rfl (lv_at hl_ 3 rfl) ?_
            refine jx_icmp_gt (tgt := 48) hx_ hb_ h_ dX3_touching_32 (by decide) (fun h_ => ?_) (fun h_ => ?_)
            · refine lv_iinc (v := jI (v3 + 1)) (lv' := [(5, .int (jI (v3 + 1))), (0, .ref (a 0)), (1, .int (jI x1)), (2, .int (jI x2)), (3, .int (jI x3)), (4, .int (jI v2))]) hx_ hb_ dX3_touching_48 hl_ (k := 5) rfl (jI_add _ _) (by decide) rfl (fun ls hl_ => ?_)
              refine lv_goto (tgt := 6) hx_ hb_ dX3_touching_51 (by decide) ?_
              exact ih6 _ _ _ _ ls h_ hP_ hD_ hS_ (lv_sub hl_ [1, 2, 3, 4, 5, 0] rfl)
            · refine lv_aload_n hx_ hb_ dX3_touching_35 rfl (lv_at hl_ 0 rfl) ?_
              refine lv_iload hx_ hb_ dX3_touching_36 (lv_at hl_ 5 rfl) ?_
              obtain ⟨v6, hv6, h_⟩ := jb_i h_
              refine jx_cvi (wr := []) (cw := [(wRo y a se tr fi la sh ac no)]) (cw1 := [(wRo y a se tr fi la sh ac no)]) (cs1 := [(wRo y a se tr fi la sh ac no)]) (As := [.int (jI v3)]) (rest := []) ⟨hx_, hb_, hml_, hown_, hts_⟩ hM_ hP_ hD_ hS_ hA_ (List.Perm.refl _) (List.Perm.refl _) (c_X3_lastOf l D y z a se tr fi la sh ac no v3 fu v6 hv6) 1 gX3_touching_X3_lastOf rfl ⟨rfl, rfl⟩ (by decide +kernel) ⟨by rw [hR_]; exact Nat.le_of_ble_eq_true rfl, by rw [hR_]; exact Nat.le_of_ble_eq_true rfl⟩ 0 3 rfl rfl rfl rfl rfl hl_.1 (Nat.le_of_ble_eq_true rfl) dX3_touching_38 ⟨Nat.zero_le _, Nat.zero_le _⟩ (fun H locs hP_ hD_ hS_ => ?_)
              refine lv_iload_n hx_ hb_ dX3_touching_41 rfl (lv_at hl_ 2 rfl) ?_
              refine jx_icmp_lt (tgt := 48) hx_ hb_ h_ dX3_touching_42 (by decide) (fun h_ => ?_) (fun h_ => ?_)
              · refine lv_iinc (v := jI (v3 + 1)) (lv' := [(5, .int (jI (v3 + 1))), (0, .ref (a 0)), (1, .int (jI x1)), (2, .int (jI x2)), (3, .int (jI x3)), (4, .int (jI v2))]) hx_ hb_ dX3_touching_48 hl_ (k := 5) rfl (jI_add _ _) (by decide) rfl (fun ls hl_ => ?_)
                refine lv_goto (tgt := 6) hx_ hb_ dX3_touching_51 (by decide) ?_
                exact ih6 _ _ _ _ ls h_ hP_ hD_ hS_ (lv_sub hl_ [1, 2, 3, 4, 5, 0] rfl)
              · refine lv_iinc (v := jI (v2 + 1)) (lv' := [(4, .int (jI (v2 + 1))), (0, .ref (a 0)), (1, .int (jI x1)), (2, .int (jI x2)), (3, .int (jI x3)), (5, .int (jI v3))]) hx_ hb_ dX3_touching_45 hl_ (k := 4) rfl (jI_add _ _) (by decide) rfl (fun ls hl_ => ?_)
                refine lv_iinc (v := jI (v3 + 1)) (lv' := [(5, .int (jI (v3 + 1))), (4, .int (jI (v2 + 1))), (0, .ref (a 0)), (1, .int (jI x1)), (2, .int (jI x2)), (3, .int (jI x3))]) hx_ hb_ dX3_touching_48 hl_ (k := 5) rfl (jI_add _ _) (by decide) rfl (fun ls hl_ => ?_)
                refine lv_goto (tgt := 6) hx_ hb_ dX3_touching_51 (by decide) ?_
                exact ih6 _ _ _ _ ls h_ hP_ hD_ hS_ (lv_sub hl_ [2, 3, 4, 5, 1, 0] rfl)
    exact hL6 fu _ _ _ _ ls h_ hP_ hD_ hS_ (lv_sub hl_ [2, 3, 4, 5, 1, 0] rfl)
  exact key_ _ (fun v9 H locs pc ls h9_ hdg_ hP_ hD_ hS_ => by cases h9_; exact jend_i hx_ hb_ hr_ hlocks_ hP_ hD_ hS_ hdg_)
def rm_X3_isTaken : Room := { frames := 3, cells := 0, slots := 0, locals := 67 }
set_option maxRecDepth 100000 in
set_option maxHeartbeats 8000000 in
theorem c_X3_isTaken (l : Launch) (D : va_G) (y : Nat → ClassId) (z : Nat → Nat) (a : Nat → Nat) (se : Int → Int) (tr : Int → Int) (fi : Int → Int) (la : Int → Int) (sh : Int → Int) (ac : Int → Int) (no : Int) (x1 : Int) (x2 : Int) (x3 : Int) (fu : Nat) (rr : Int) (h_ : f_X3_isTaken fu tr fi la no x1 x2 x3 = some rr) : jCI l D y z yX3_isTaken wsX3_isTaken rm_X3_isTaken [.ref (a 0), .int (jI x1), .int (jI x2), .int (jI x3)] [(wRo y a se tr fi la sh ac no)] [(wRo y a se tr fi la sh ac no)] rr := by
  intro sz
  refine jmet (Qc := (fun A => va_Qi (fun v (_ : Unit) => v = jI rr) (jB D A [(wRo y a se tr fi la sh ac no)]) A)) (cc := cX3_isTaken) (maxL := 4) (ret := (some .boolean)) (own := RX3) (by decide) rfl (Nat.le_of_ble_eq_true rfl) rfl (fun p e s m R args below meth c A ls hR_ hargs_ hx_ hb_ hr_ hlocks_ hml_ hown_ hts_ hname_ hsz_ hP_ hD_ hA_ hM_ hl_ => ?_)
  have key_ : ∀ Q : State → Prop, (∀ (v9 : Int) (H : Heap) (locs : List Loc) (pc : Nat) (ls : Array Slot), some v9 = some rr → (v9 = 0 ∨ v9 = 1) → decode cX3_isTaken pc = .ok (.ireturn, 1) → va_P D vwCl [(wRo y a se tr fi la sh ac no)].flatten H → va_D A [(wRo y a se tr fi la sh ac no)].flatten → va_S A s.heap H locs → W p l e R s m args below meth c H locs 0 0 Q (F0 m pc ls [.int (jI v9)])) → W p l e R s m args below meth c s.heap [] 0 0 Q (F0 m 0 ls []) := by
    intro Q hE_
    have hS_ : va_S A s.heap s.heap [] := va_S.rf
    have hl_ : lv_has ls 4 [(0, .ref (a 0)), (1, .int (jI x1)), (2, .int (jI x2)), (3, .int (jI x3))] := hl_
    have hin_ : ∀ w ∈ u_ws RX3 TX3 7, w ∈ wsX3_isTaken := by decide +kernel
    unfold f_X3_isTaken at h_
    refine lv_aload_n hx_ hb_ dX3_isTaken_0 rfl (lv_at hl_ 0 rfl) ?_
    refine lv_iload_n hx_ hb_ dX3_isTaken_1 rfl (lv_at hl_ 1 rfl) ?_
    refine lv_iload_n hx_ hb_ dX3_isTaken_2 rfl (lv_at hl_ 2 rfl) ?_
    refine lv_iload_n hx_ hb_ dX3_isTaken_3 rfl (lv_at hl_ 3 rfl) ?_
    obtain ⟨v1, hv1, h_⟩ := jb_i h_
    refine jx_cvi (wr := []) (cw := [(wRo y a se tr fi la sh ac no)]) (cw1 := [(wRo y a se tr fi la sh ac no)]) (cs1 := [(wRo y a se tr fi la sh ac no)]) (As := [.int (jI x1), .int (jI x2), .int (jI x3)]) (rest := []) ⟨hx_, hb_, hml_, hown_, hts_⟩ hM_ hP_ hD_ hS_ hA_ (List.Perm.refl _) (List.Perm.refl _) (c_X3_touching l D y z a se tr fi la sh ac no x1 x2 x3 fu v1 hv1) 3 gX3_isTaken_X3_touching rfl ⟨rfl, rfl⟩ (by decide +kernel) ⟨by rw [hR_]; exact Nat.le_of_ble_eq_true rfl, by rw [hR_]; exact Nat.le_of_ble_eq_true rfl⟩ 0 3 rfl rfl rfl rfl rfl hl_.1 (Nat.le_of_ble_eq_true rfl) dX3_isTaken_4 ⟨Nat.zero_le _, Nat.zero_le _⟩ (fun H locs hP_ hD_ hS_ => ?_)
    refine jx_if_le (tgt := 14) hx_ hb_ h_ dX3_isTaken_7 (by decide) (fun h_ => ?_) (fun h_ => ?_)
    · refine lv_iconst (v := jI 0) hx_ hb_ dX3_isTaken_14 (by decide +kernel) ?_
      obtain ⟨hz_, h_⟩ := jbo_i h_
      exact hE_ _ _ _ _ _ h_ hz_ dX3_isTaken_15 hP_ hD_ hS_
    · refine lv_iconst (v := jI 1) hx_ hb_ dX3_isTaken_10 (by decide +kernel) ?_
      refine lv_goto (tgt := 15) hx_ hb_ dX3_isTaken_11 (by decide) ?_
      obtain ⟨hz_, h_⟩ := jbo_i h_
      exact hE_ _ _ _ _ _ h_ hz_ dX3_isTaken_15 hP_ hD_ hS_
  exact key_ _ (fun v9 H locs pc ls h9_ hz_ hdg_ hP_ hD_ hS_ => by cases h9_; exact jend_z hx_ hb_ hr_ hlocks_ hz_ hP_ hD_ hS_ hdg_)
def rm_X3_placeFor : Room := { frames := 2, cells := 0, slots := 0, locals := 42 }
set_option maxRecDepth 100000 in
set_option maxHeartbeats 8000000 in
theorem c_X3_placeFor (l : Launch) (D : va_G) (y : Nat → ClassId) (z : Nat → Nat) (a : Nat → Nat) (se : Int → Int) (tr : Int → Int) (fi : Int → Int) (la : Int → Int) (sh : Int → Int) (ac : Int → Int) (no : Int) (x1 : Int) (x2 : Int) (fu : Nat) (rr : Int) (h_ : f_X3_placeFor fu tr fi no x1 x2 = some rr) : jCI l D y z yX3_placeFor wsX3_placeFor rm_X3_placeFor [.ref (a 0), .int (jI x1), .int (jI x2)] [(wRo y a se tr fi la sh ac no)] [(wRo y a se tr fi la sh ac no)] rr := by
  intro sz
  refine jmet (Qc := (fun A => va_Qi (fun v (_ : Unit) => v = jI rr) (jB D A [(wRo y a se tr fi la sh ac no)]) A)) (cc := cX3_placeFor) (maxL := 5) (ret := (some .int)) (own := RX3) (by decide) rfl (Nat.le_of_ble_eq_true rfl) rfl (fun p e s m R args below meth c A ls hR_ hargs_ hx_ hb_ hr_ hlocks_ hml_ hown_ hts_ hname_ hsz_ hP_ hD_ hA_ hM_ hl_ => ?_)
  have key_ : ∀ Q : State → Prop, (∀ (v9 : Int) (H : Heap) (locs : List Loc) (pc : Nat) (ls : Array Slot), some v9 = some rr → decode cX3_placeFor pc = .ok (.ireturn, 1) → va_P D vwCl [(wRo y a se tr fi la sh ac no)].flatten H → va_D A [(wRo y a se tr fi la sh ac no)].flatten → va_S A s.heap H locs → W p l e R s m args below meth c H locs 0 0 Q (F0 m pc ls [.int (jI v9)])) → W p l e R s m args below meth c s.heap [] 0 0 Q (F0 m 0 ls []) := by
    intro Q hE_
    have hS_ : va_S A s.heap s.heap [] := va_S.rf
    have hl_ : lv_has ls 5 [(0, .ref (a 0)), (1, .int (jI x1)), (2, .int (jI x2))] := hl_
    have hin_ : ∀ w ∈ u_ws RX3 TX3 7, w ∈ wsX3_placeFor := by decide +kernel
    unfold f_X3_placeFor at h_
    refine lv_iconst (v := jI 0) hx_ hb_ dX3_placeFor_0 (by decide +kernel) ?_
    refine lv_istore_n (lv' := [(3, .int (jI 0)), (0, .ref (a 0)), (1, .int (jI x1)), (2, .int (jI x2))]) hx_ hb_ dX3_placeFor_1 rfl hl_ (by decide) rfl (fun ls hl_ => ?_)
    refine lv_iconst (v := jI 0) hx_ hb_ dX3_placeFor_2 (by decide +kernel) ?_
    refine lv_istore (lv' := [(4, .int (jI 0)), (3, .int (jI 0)), (0, .ref (a 0)), (1, .int (jI x1)), (2, .int (jI x2))]) hx_ hb_ dX3_placeFor_3 hl_ (by decide) rfl (fun ls hl_ => ?_)
    have hX53 : ∀ (v1 : Int) (H : Heap) (locs : List Loc) (ls : Array Slot), f_X3_placeFor_X53 fu v1 = some rr → va_P D vwCl [(wRo y a se tr fi la sh ac no)].flatten H → va_D A [(wRo y a se tr fi la sh ac no)].flatten → va_S A s.heap H locs → lv_has ls 5 [(3, .int (jI v1))] → W p l e R s m args below meth c H locs 0 0 Q (F0 m 53 ls []) := by
      intro v1 H locs ls h_ hP_ hD_ hS_ hl_
      unfold f_X3_placeFor_X53 at h_
      refine lv_iload_n hx_ hb_ dX3_placeFor_53 rfl (lv_at hl_ 0 rfl) ?_
      exact hE_ _ _ _ _ _ h_ dX3_placeFor_54 hP_ hD_ hS_
    have hL5 : ∀ n5 : Nat, ∀ (v2 : Int) (v3 : Int) (H : Heap) (locs : List Loc) (ls : Array Slot), f_X3_placeFor_L5 fu tr fi no x1 x2 (f_X3_placeFor_X53 fu) n5 v2 v3 = some rr → va_P D vwCl [(wRo y a se tr fi la sh ac no)].flatten H → va_D A [(wRo y a se tr fi la sh ac no)].flatten → va_S A s.heap H locs → lv_has ls 5 [(0, .ref (a 0)), (1, .int (jI x1)), (2, .int (jI x2)), (3, .int (jI v2)), (4, .int (jI v3))] → W p l e R s m args below meth c H locs 0 0 Q (F0 m 5 ls []) := by
      intro n5
      induction n5 with
      | zero => intro _ _ H locs ls h_; have h_ : (none : Option (Int)) = some rr := h_; cases h_
      | succ n5 ih5 =>
        intro v2 v3 H locs ls h_ hP_ hD_ hS_ hl_
        replace h_ : f_X3_placeFor_L5_b fu tr fi no x1 x2 (f_X3_placeFor_X53 fu) (f_X3_placeFor_L5 fu tr fi no x1 x2 (f_X3_placeFor_X53 fu) n5) v2 v3 = some rr := h_
        unfold f_X3_placeFor_L5_b at h_
        refine lv_iload hx_ hb_ dX3_placeFor_5 (lv_at hl_ 4 rfl) ?_
        refine lv_aload_n hx_ hb_ dX3_placeFor_7 rfl (lv_at hl_ 0 rfl) ?_
        refine va_get (D := D) (ci := 3) (v := .int (jI no)) (C := RX3) (T := TX3) (N := 7) hx_ hb_ hts_ hin_ hown_ hM_.1 hP_ 0 rfl rfl 6 (by decide) (hts_ (.fieldLink RX3 44 "MusicHoles$Roll" "notes" "I") (by decide +kernel)) (fun _ h9_ => h9_) rfl dX3_placeFor_8 ?_
        refine jx_icmp_ge (tgt := 53) hx_ hb_ h_ dX3_placeFor_11 (by decide) (fun h_ => ?_) (fun h_ => ?_)
        · exact hX53 _ _ _ ls h_ hP_ hD_ hS_ (lv_sub hl_ [3] rfl)
        · refine lv_aload_n hx_ hb_ dX3_placeFor_14 rfl (lv_at hl_ 0 rfl) ?_
          refine lv_iload hx_ hb_ dX3_placeFor_15 (lv_at hl_ 4 rfl) ?_
          obtain ⟨v4, hv4, h_⟩ := jb_i h_
          refine jx_cvi (wr := []) (cw := [(wRo y a se tr fi la sh ac no)]) (cw1 := [(wRo y a se tr fi la sh ac no)]) (cs1 := [(wRo y a se tr fi la sh ac no)]) (As := [.int (jI v3)]) (rest := []) ⟨hx_, hb_, hml_, hown_, hts_⟩ hM_ hP_ hD_ hS_ hA_ (List.Perm.refl _) (List.Perm.refl _) (c_X3_firstOf l D y z a se tr fi la sh ac no v3 fu v4 hv4) 1 gX3_placeFor_X3_firstOf rfl ⟨rfl, rfl⟩ (by decide +kernel) ⟨by rw [hR_]; exact Nat.le_of_ble_eq_true rfl, by rw [hR_]; exact Nat.le_of_ble_eq_true rfl⟩ 0 3 rfl rfl rfl rfl rfl hl_.1 (Nat.le_of_ble_eq_true rfl) dX3_placeFor_17 ⟨Nat.zero_le _, Nat.zero_le _⟩ (fun H locs hP_ hD_ hS_ => ?_)
          refine lv_iload_n hx_ hb_ dX3_placeFor_20 rfl (lv_at hl_ 2 rfl) ?_
          refine jx_icmp_lt (tgt := 44) hx_ hb_ h_ dX3_placeFor_21 (by decide) (fun h_ => ?_) (fun h_ => ?_)
          · refine lv_iinc (v := jI (v2 + 1)) (lv' := [(3, .int (jI (v2 + 1))), (0, .ref (a 0)), (1, .int (jI x1)), (2, .int (jI x2)), (4, .int (jI v3))]) hx_ hb_ dX3_placeFor_44 hl_ (k := 3) rfl (jI_add _ _) (by decide) rfl (fun ls hl_ => ?_)
            refine lv_iinc (v := jI (v3 + 1)) (lv' := [(4, .int (jI (v3 + 1))), (3, .int (jI (v2 + 1))), (0, .ref (a 0)), (1, .int (jI x1)), (2, .int (jI x2))]) hx_ hb_ dX3_placeFor_47 hl_ (k := 4) rfl (jI_add _ _) (by decide) rfl (fun ls hl_ => ?_)
            refine lv_goto (tgt := 5) hx_ hb_ dX3_placeFor_50 (by decide) ?_
            exact ih5 _ _ _ _ ls h_ hP_ hD_ hS_ (lv_sub hl_ [2, 3, 4, 1, 0] rfl)
          · refine lv_aload_n hx_ hb_ dX3_placeFor_24 rfl (lv_at hl_ 0 rfl) ?_
            refine lv_iload hx_ hb_ dX3_placeFor_25 (lv_at hl_ 4 rfl) ?_
            obtain ⟨v5, hv5, h_⟩ := jb_i h_
            refine jx_cvi (wr := []) (cw := [(wRo y a se tr fi la sh ac no)]) (cw1 := [(wRo y a se tr fi la sh ac no)]) (cs1 := [(wRo y a se tr fi la sh ac no)]) (As := [.int (jI v3)]) (rest := []) ⟨hx_, hb_, hml_, hown_, hts_⟩ hM_ hP_ hD_ hS_ hA_ (List.Perm.refl _) (List.Perm.refl _) (c_X3_firstOf l D y z a se tr fi la sh ac no v3 fu v5 hv5) 1 gX3_placeFor_X3_firstOf rfl ⟨rfl, rfl⟩ (by decide +kernel) ⟨by rw [hR_]; exact Nat.le_of_ble_eq_true rfl, by rw [hR_]; exact Nat.le_of_ble_eq_true rfl⟩ 0 3 rfl rfl rfl rfl rfl hl_.1 (Nat.le_of_ble_eq_true rfl) dX3_placeFor_27 ⟨Nat.zero_le _, Nat.zero_le _⟩ (fun H locs hP_ hD_ hS_ => ?_)
            refine lv_iload_n hx_ hb_ dX3_placeFor_30 rfl (lv_at hl_ 2 rfl) ?_
            refine jx_icmp_ne (tgt := 47) hx_ hb_ h_ dX3_placeFor_31 (by decide) (fun h_ => ?_) (fun h_ => ?_)
            · refine lv_iinc (v := jI (v3 + 1)) (lv' := [(4, .int (jI (v3 + 1))), (0, .ref (a 0)), (1, .int (jI x1)), (2, .int (jI x2)), (3, .int (jI v2))]) hx_ hb_ dX3_placeFor_47 hl_ (k := 4) rfl (jI_add _ _) (by decide) rfl (fun ls hl_ => ?_)
              refine lv_goto (tgt := 5) hx_ hb_ dX3_placeFor_50 (by decide) ?_
              exact ih5 _ _ _ _ ls h_ hP_ hD_ hS_ (lv_sub hl_ [1, 2, 3, 4, 0] rfl)
            · refine lv_aload_n hx_ hb_ dX3_placeFor_34 rfl (lv_at hl_ 0 rfl) ?_
              refine lv_iload hx_ hb_ dX3_placeFor_35 (lv_at hl_ 4 rfl) ?_
              obtain ⟨v6, hv6, h_⟩ := jb_i h_
              refine jx_cvi (wr := []) (cw := [(wRo y a se tr fi la sh ac no)]) (cw1 := [(wRo y a se tr fi la sh ac no)]) (cs1 := [(wRo y a se tr fi la sh ac no)]) (As := [.int (jI v3)]) (rest := []) ⟨hx_, hb_, hml_, hown_, hts_⟩ hM_ hP_ hD_ hS_ hA_ (List.Perm.refl _) (List.Perm.refl _) (c_X3_trackOf l D y z a se tr fi la sh ac no v3 fu v6 hv6) 1 gX3_placeFor_X3_trackOf rfl ⟨rfl, rfl⟩ (by decide +kernel) ⟨by rw [hR_]; exact Nat.le_of_ble_eq_true rfl, by rw [hR_]; exact Nat.le_of_ble_eq_true rfl⟩ 0 3 rfl rfl rfl rfl rfl hl_.1 (Nat.le_of_ble_eq_true rfl) dX3_placeFor_37 ⟨Nat.zero_le _, Nat.zero_le _⟩ (fun H locs hP_ hD_ hS_ => ?_)
              refine lv_iload_n hx_ hb_ dX3_placeFor_40 rfl (lv_at hl_ 1 rfl) ?_
              refine jx_icmp_ge (tgt := 47) hx_ hb_ h_ dX3_placeFor_41 (by decide) (fun h_ => ?_) (fun h_ => ?_)
              · refine lv_iinc (v := jI (v3 + 1)) (lv' := [(4, .int (jI (v3 + 1))), (0, .ref (a 0)), (1, .int (jI x1)), (2, .int (jI x2)), (3, .int (jI v2))]) hx_ hb_ dX3_placeFor_47 hl_ (k := 4) rfl (jI_add _ _) (by decide) rfl (fun ls hl_ => ?_)
                refine lv_goto (tgt := 5) hx_ hb_ dX3_placeFor_50 (by decide) ?_
                exact ih5 _ _ _ _ ls h_ hP_ hD_ hS_ (lv_sub hl_ [1, 2, 3, 4, 0] rfl)
              · refine lv_iinc (v := jI (v2 + 1)) (lv' := [(3, .int (jI (v2 + 1))), (0, .ref (a 0)), (1, .int (jI x1)), (2, .int (jI x2)), (4, .int (jI v3))]) hx_ hb_ dX3_placeFor_44 hl_ (k := 3) rfl (jI_add _ _) (by decide) rfl (fun ls hl_ => ?_)
                refine lv_iinc (v := jI (v3 + 1)) (lv' := [(4, .int (jI (v3 + 1))), (3, .int (jI (v2 + 1))), (0, .ref (a 0)), (1, .int (jI x1)), (2, .int (jI x2))]) hx_ hb_ dX3_placeFor_47 hl_ (k := 4) rfl (jI_add _ _) (by decide) rfl (fun ls hl_ => ?_)
                refine lv_goto (tgt := 5) hx_ hb_ dX3_placeFor_50 (by decide) ?_
                exact ih5 _ _ _ _ ls h_ hP_ hD_ hS_ (lv_sub hl_ [2, 3, 4, 1, 0] rfl)
    exact hL5 fu _ _ _ _ ls h_ hP_ hD_ hS_ (lv_sub hl_ [2, 3, 4, 1, 0] rfl)
  exact key_ _ (fun v9 H locs pc ls h9_ hdg_ hP_ hD_ hS_ => by cases h9_; exact jend_i hx_ hb_ hr_ hlocks_ hP_ hD_ hS_ hdg_)
def rm_X3_move : Room := { frames := 1, cells := 0, slots := 0, locals := 22 }
set_option maxRecDepth 100000 in
set_option maxHeartbeats 8000000 in
theorem c_X3_move (l : Launch) (D : va_G) (y : Nat → ClassId) (z : Nat → Nat) (a : Nat → Nat) (se : Int → Int) (tr : Int → Int) (fi : Int → Int) (la : Int → Int) (sh : Int → Int) (ac : Int → Int) (no : Int) (x1 : Int) (x2 : Int) (fu : Nat) (q_tr : Int → Int) (q_fi : Int → Int) (q_la : Int → Int) (q_sh : Int → Int) (q_ac : Int → Int) (h_ : f_X3_move fu tr fi la sh ac x1 x2 = some (q_tr, q_fi, q_la, q_sh, q_ac)) : jCV l D y z yX3_move wsX3_move rm_X3_move [.ref (a 0), .int (jI x1), .int (jI x2)] [(wRo y a se tr fi la sh ac no)] [(wRo y a se q_tr q_fi q_la q_sh q_ac no)] := by
  intro sz
  refine jmet (Qc := (fun A => va_Qv (fun (_ : Unit) => True) (jB D A [(wRo y a se q_tr q_fi q_la q_sh q_ac no)]) A)) (cc := cX3_move) (maxL := 3) (ret := none) (own := RX3) (by decide) rfl (Nat.le_of_ble_eq_true rfl) rfl (fun p e s m R args below meth c A ls hR_ hargs_ hx_ hb_ hr_ hlocks_ hml_ hown_ hts_ hname_ hsz_ hP_ hD_ hA_ hM_ hl_ => ?_)
  have key_ : ∀ Q : State → Prop, (∀ (tr9 : Int → Int) (fi9 : Int → Int) (la9 : Int → Int) (sh9 : Int → Int) (ac9 : Int → Int) (H : Heap) (locs : List Loc) (pc : Nat) (ls : Array Slot), some (tr9, fi9, la9, sh9, ac9) = some (q_tr, q_fi, q_la, q_sh, q_ac) → decode cX3_move pc = .ok (.return_, 1) → va_P D vwCl [(wRo y a se tr9 fi9 la9 sh9 ac9 no)].flatten H → va_D A [(wRo y a se tr9 fi9 la9 sh9 ac9 no)].flatten → va_S A s.heap H locs → W p l e R s m args below meth c H locs 0 0 Q (F0 m pc ls [])) → W p l e R s m args below meth c s.heap [] 0 0 Q (F0 m 0 ls []) := by
    intro Q hE_
    have hS_ : va_S A s.heap s.heap [] := va_S.rf
    have hl_ : lv_has ls 3 [(0, .ref (a 0)), (1, .int (jI x1)), (2, .int (jI x2))] := hl_
    have hin_ : ∀ w ∈ u_ws RX3 TX3 7, w ∈ wsX3_move := by decide +kernel
    unfold f_X3_move at h_
    refine lv_iload_n hx_ hb_ dX3_move_0 rfl (lv_at hl_ 1 rfl) ?_
    refine lv_iconst (v := jI 0) hx_ hb_ dX3_move_1 (by decide +kernel) ?_
    refine lv_bipush (v := jI 39) hx_ hb_ dX3_move_2 (by decide +kernel) ?_
    obtain ⟨v1, hv1, h_⟩ := jb_i h_
    refine jx_cni (ws1 := []) (As := [.int (jI x1), .int (jI 0), .int (jI 39)]) (rest := []) ⟨hx_, hb_, hml_, hown_, hts_⟩ hM_ hP_ hD_ hS_ hA_ (c_X4_isIn l D y z x1 0 39 fu v1 hv1) 3 ⟨va_cnB 3 hts_ gX3_move_X4_isIn_n48 rfl rfl rfl hM_.2.1.2.2.2.2 (hts_ (.initialized RX4) (by decide +kernel)) (by decide +kernel) ⟨by rw [hR_]; exact Nat.le_of_ble_eq_true rfl, by rw [hR_]; exact Nat.le_of_ble_eq_true rfl⟩, hts_ (.static yX4_isIn) (by decide +kernel), trivial⟩ rfl rfl hl_.1 (Nat.le_of_ble_eq_true rfl) dX3_move_4 ⟨Nat.zero_le _, Nat.zero_le _⟩ (fun H locs hP_ hD_ hS_ => ?_)
    refine jx_if_eq (tgt := 80) hx_ hb_ h_ dX3_move_7 (by decide) (fun h_ => ?_) (fun h_ => ?_)
    · exact hE_ _ _ _ _ _ _ _ _ _ h_ dX3_move_80 hP_ hD_ hS_
    · refine lv_iload_n hx_ hb_ dX3_move_10 rfl (lv_at hl_ 2 rfl) ?_
      refine lv_iconst (v := jI 0) hx_ hb_ dX3_move_11 (by decide +kernel) ?_
      refine lv_bipush (v := jI 39) hx_ hb_ dX3_move_12 (by decide +kernel) ?_
      obtain ⟨v2, hv2, h_⟩ := jb_i h_
      refine jx_cni (ws1 := []) (As := [.int (jI x2), .int (jI 0), .int (jI 39)]) (rest := []) ⟨hx_, hb_, hml_, hown_, hts_⟩ hM_ hP_ hD_ hS_ hA_ (c_X4_isIn l D y z x2 0 39 fu v2 hv2) 3 ⟨va_cnB 3 hts_ gX3_move_X4_isIn_n48 rfl rfl rfl hM_.2.1.2.2.2.2 (hts_ (.initialized RX4) (by decide +kernel)) (by decide +kernel) ⟨by rw [hR_]; exact Nat.le_of_ble_eq_true rfl, by rw [hR_]; exact Nat.le_of_ble_eq_true rfl⟩, hts_ (.static yX4_isIn) (by decide +kernel), trivial⟩ rfl rfl hl_.1 (Nat.le_of_ble_eq_true rfl) dX3_move_14 ⟨Nat.zero_le _, Nat.zero_le _⟩ (fun H locs hP_ hD_ hS_ => ?_)
      refine jx_if_eq (tgt := 80) hx_ hb_ h_ dX3_move_17 (by decide) (fun h_ => ?_) (fun h_ => ?_)
      · exact hE_ _ _ _ _ _ _ _ _ _ h_ dX3_move_80 hP_ hD_ hS_
      · refine lv_aload_n hx_ hb_ dX3_move_20 rfl (lv_at hl_ 0 rfl) ?_
        refine va_get (D := D) (ci := 3) (v := .ref (a 2)) (C := RX3) (T := TX3) (N := 7) hx_ hb_ hts_ hin_ hown_ hM_.1 hP_ 0 rfl rfl 1 (by decide) (hts_ (.fieldLink RX3 15 "MusicHoles$Roll" "tracks" "[I") (by decide +kernel)) (fun _ h9_ => h9_) rfl dX3_move_21 ?_
        refine lv_iload_n hx_ hb_ dX3_move_24 rfl (lv_at hl_ 2 rfl) ?_
        refine lv_aload_n hx_ hb_ dX3_move_25 rfl (lv_at hl_ 0 rfl) ?_
        refine va_get (D := D) (ci := 3) (v := .ref (a 2)) (C := RX3) (T := TX3) (N := 7) hx_ hb_ hts_ hin_ hown_ hM_.1 hP_ 0 rfl rfl 1 (by decide) (hts_ (.fieldLink RX3 15 "MusicHoles$Roll" "tracks" "[I") (by decide +kernel)) (fun _ h9_ => h9_) rfl dX3_move_26 ?_
        refine lv_iload_n hx_ hb_ dX3_move_29 rfl (lv_at hl_ 1 rfl) ?_
        refine jx_iald hx_ hb_ hM_ hP_ 2 0 rfl rfl rfl (Nat.le_of_ble_eq_true rfl) h_ dX3_move_30 (fun h_ => ?_)
        refine jx_iast hx_ hb_ hM_ hP_ hD_ hS_ 2 0 rfl rfl rfl (Nat.le_of_ble_eq_true rfl) h_ dX3_move_31 (fun H locs h_ hP_ hD_ hS_ => ?_)
        have hP_ : va_P D vwCl [(wRo y a se (uI tr x2 (tr x1)) fi la sh ac no)].flatten H := hP_
        have hD_ : va_D A [(wRo y a se (uI tr x2 (tr x1)) fi la sh ac no)].flatten := hD_
        refine lv_aload_n hx_ hb_ dX3_move_32 rfl (lv_at hl_ 0 rfl) ?_
        refine va_get (D := D) (ci := 3) (v := .ref (a 3)) (C := RX3) (T := TX3) (N := 7) hx_ hb_ hts_ hin_ hown_ hM_.1 hP_ 0 rfl rfl 2 (by decide) (hts_ (.fieldLink RX3 18 "MusicHoles$Roll" "firsts" "[I") (by decide +kernel)) (fun _ h9_ => h9_) rfl dX3_move_33 ?_
        refine lv_iload_n hx_ hb_ dX3_move_36 rfl (lv_at hl_ 2 rfl) ?_
        refine lv_aload_n hx_ hb_ dX3_move_37 rfl (lv_at hl_ 0 rfl) ?_
        refine va_get (D := D) (ci := 3) (v := .ref (a 3)) (C := RX3) (T := TX3) (N := 7) hx_ hb_ hts_ hin_ hown_ hM_.1 hP_ 0 rfl rfl 2 (by decide) (hts_ (.fieldLink RX3 18 "MusicHoles$Roll" "firsts" "[I") (by decide +kernel)) (fun _ h9_ => h9_) rfl dX3_move_38 ?_
        refine lv_iload_n hx_ hb_ dX3_move_41 rfl (lv_at hl_ 1 rfl) ?_
        refine jx_iald hx_ hb_ hM_ hP_ 3 0 rfl rfl rfl (Nat.le_of_ble_eq_true rfl) h_ dX3_move_42 (fun h_ => ?_)
        refine jx_iast hx_ hb_ hM_ hP_ hD_ hS_ 3 0 rfl rfl rfl (Nat.le_of_ble_eq_true rfl) h_ dX3_move_43 (fun H locs h_ hP_ hD_ hS_ => ?_)
        have hP_ : va_P D vwCl [(wRo y a se (uI tr x2 (tr x1)) (uI fi x2 (fi x1)) la sh ac no)].flatten H := hP_
        have hD_ : va_D A [(wRo y a se (uI tr x2 (tr x1)) (uI fi x2 (fi x1)) la sh ac no)].flatten := hD_
        refine lv_aload_n hx_ hb_ dX3_move_44 rfl (lv_at hl_ 0 rfl) ?_
        refine va_get (D := D) (ci := 3) (v := .ref (a 4)) (C := RX3) (T := TX3) (N := 7) hx_ hb_ hts_ hin_ hown_ hM_.1 hP_ 0 rfl rfl 3 (by decide) (hts_ (.fieldLink RX3 21 "MusicHoles$Roll" "lasts" "[I") (by decide +kernel)) (fun _ h9_ => h9_) rfl dX3_move_45 ?_
        refine lv_iload_n hx_ hb_ dX3_move_48 rfl (lv_at hl_ 2 rfl) ?_
        refine lv_aload_n hx_ hb_ dX3_move_49 rfl (lv_at hl_ 0 rfl) ?_
        refine va_get (D := D) (ci := 3) (v := .ref (a 4)) (C := RX3) (T := TX3) (N := 7) hx_ hb_ hts_ hin_ hown_ hM_.1 hP_ 0 rfl rfl 3 (by decide) (hts_ (.fieldLink RX3 21 "MusicHoles$Roll" "lasts" "[I") (by decide +kernel)) (fun _ h9_ => h9_) rfl dX3_move_50 ?_
        refine lv_iload_n hx_ hb_ dX3_move_53 rfl (lv_at hl_ 1 rfl) ?_
        refine jx_iald hx_ hb_ hM_ hP_ 4 0 rfl rfl rfl (Nat.le_of_ble_eq_true rfl) h_ dX3_move_54 (fun h_ => ?_)
        refine jx_iast hx_ hb_ hM_ hP_ hD_ hS_ 4 0 rfl rfl rfl (Nat.le_of_ble_eq_true rfl) h_ dX3_move_55 (fun H locs h_ hP_ hD_ hS_ => ?_)
        have hP_ : va_P D vwCl [(wRo y a se (uI tr x2 (tr x1)) (uI fi x2 (fi x1)) (uI la x2 (la x1)) sh ac no)].flatten H := hP_
        have hD_ : va_D A [(wRo y a se (uI tr x2 (tr x1)) (uI fi x2 (fi x1)) (uI la x2 (la x1)) sh ac no)].flatten := hD_
        refine lv_aload_n hx_ hb_ dX3_move_56 rfl (lv_at hl_ 0 rfl) ?_
        refine va_get (D := D) (ci := 3) (v := .ref (a 5)) (C := RX3) (T := TX3) (N := 7) hx_ hb_ hts_ hin_ hown_ hM_.1 hP_ 0 rfl rfl 4 (by decide) (hts_ (.fieldLink RX3 24 "MusicHoles$Roll" "shifts" "[I") (by decide +kernel)) (fun _ h9_ => h9_) rfl dX3_move_57 ?_
        refine lv_iload_n hx_ hb_ dX3_move_60 rfl (lv_at hl_ 2 rfl) ?_
        refine lv_aload_n hx_ hb_ dX3_move_61 rfl (lv_at hl_ 0 rfl) ?_
        refine va_get (D := D) (ci := 3) (v := .ref (a 5)) (C := RX3) (T := TX3) (N := 7) hx_ hb_ hts_ hin_ hown_ hM_.1 hP_ 0 rfl rfl 4 (by decide) (hts_ (.fieldLink RX3 24 "MusicHoles$Roll" "shifts" "[I") (by decide +kernel)) (fun _ h9_ => h9_) rfl dX3_move_62 ?_
        refine lv_iload_n hx_ hb_ dX3_move_65 rfl (lv_at hl_ 1 rfl) ?_
        refine jx_iald hx_ hb_ hM_ hP_ 5 0 rfl rfl rfl (Nat.le_of_ble_eq_true rfl) h_ dX3_move_66 (fun h_ => ?_)
        refine jx_iast hx_ hb_ hM_ hP_ hD_ hS_ 5 0 rfl rfl rfl (Nat.le_of_ble_eq_true rfl) h_ dX3_move_67 (fun H locs h_ hP_ hD_ hS_ => ?_)
        have hP_ : va_P D vwCl [(wRo y a se (uI tr x2 (tr x1)) (uI fi x2 (fi x1)) (uI la x2 (la x1)) (uI sh x2 (sh x1)) ac no)].flatten H := hP_
        have hD_ : va_D A [(wRo y a se (uI tr x2 (tr x1)) (uI fi x2 (fi x1)) (uI la x2 (la x1)) (uI sh x2 (sh x1)) ac no)].flatten := hD_
        refine lv_aload_n hx_ hb_ dX3_move_68 rfl (lv_at hl_ 0 rfl) ?_
        refine va_get (D := D) (ci := 3) (v := .ref (a 6)) (C := RX3) (T := TX3) (N := 7) hx_ hb_ hts_ hin_ hown_ hM_.1 hP_ 0 rfl rfl 5 (by decide) (hts_ (.fieldLink RX3 27 "MusicHoles$Roll" "accents" "[Z") (by decide +kernel)) (fun _ h9_ => h9_) rfl dX3_move_69 ?_
        refine lv_iload_n hx_ hb_ dX3_move_72 rfl (lv_at hl_ 2 rfl) ?_
        refine lv_aload_n hx_ hb_ dX3_move_73 rfl (lv_at hl_ 0 rfl) ?_
        refine va_get (D := D) (ci := 3) (v := .ref (a 6)) (C := RX3) (T := TX3) (N := 7) hx_ hb_ hts_ hin_ hown_ hM_.1 hP_ 0 rfl rfl 5 (by decide) (hts_ (.fieldLink RX3 27 "MusicHoles$Roll" "accents" "[Z") (by decide +kernel)) (fun _ h9_ => h9_) rfl dX3_move_74 ?_
        refine lv_iload_n hx_ hb_ dX3_move_77 rfl (lv_at hl_ 1 rfl) ?_
        refine jx_zald hx_ hb_ hM_ hP_ 6 1 rfl rfl rfl (Nat.le_of_ble_eq_true rfl) h_ dX3_move_78 (fun h_ => ?_)
        refine jx_zast hx_ hb_ hM_ hP_ hD_ hS_ 6 1 rfl rfl rfl (Nat.le_of_ble_eq_true rfl) h_ dX3_move_79 (fun H locs h_ hP_ hD_ hS_ => ?_)
        have hP_ : va_P D vwCl [(wRo y a se (uI tr x2 (tr x1)) (uI fi x2 (fi x1)) (uI la x2 (la x1)) (uI sh x2 (sh x1)) (uI ac x2 (ac x1)) no)].flatten H := hP_
        have hD_ : va_D A [(wRo y a se (uI tr x2 (tr x1)) (uI fi x2 (fi x1)) (uI la x2 (la x1)) (uI sh x2 (sh x1)) (uI ac x2 (ac x1)) no)].flatten := hD_
        exact hE_ _ _ _ _ _ _ _ _ _ h_ dX3_move_80 hP_ hD_ hS_
  exact key_ _ (fun tr9 fi9 la9 sh9 ac9 H locs pc ls h9_ hdg_ hP_ hD_ hS_ => by cases h9_; exact jend_v hx_ hb_ hr_ hlocks_ hP_ hD_ hS_ hdg_)
def rm_X3_add : Room := { frames := 3, cells := 0, slots := 0, locals := 66 }
set_option maxRecDepth 100000 in
set_option maxHeartbeats 8000000 in
theorem c_X3_add (l : Launch) (D : va_G) (y : Nat → ClassId) (z : Nat → Nat) (a : Nat → Nat) (se : Int → Int) (tr : Int → Int) (fi : Int → Int) (la : Int → Int) (sh : Int → Int) (ac : Int → Int) (no : Int) (x1 : Int) (x2 : Int) (x3 : Int) (x4 : Int) (x5 : Int) (fu : Nat) (rr : Int) (q_tr : Int → Int) (q_fi : Int → Int) (q_la : Int → Int) (q_sh : Int → Int) (q_ac : Int → Int) (q_no : Int) (h_ : f_X3_add fu tr fi la sh ac no x1 x2 x3 x4 x5 = some (rr, q_tr, q_fi, q_la, q_sh, q_ac, q_no)) : jCI l D y z yX3_add wsX3_add rm_X3_add [.ref (a 0), .int (jI x1), .int (jI x2), .int (jI x3), .int (jI x4), .int (jI x5)] [(wRo y a se tr fi la sh ac no)] [(wRo y a se q_tr q_fi q_la q_sh q_ac q_no)] rr := by
  intro sz
  refine jmet (Qc := (fun A => va_Qi (fun v (_ : Unit) => v = jI rr) (jB D A [(wRo y a se q_tr q_fi q_la q_sh q_ac q_no)]) A)) (cc := cX3_add) (maxL := 8) (ret := (some .int)) (own := RX3) (by decide) rfl (Nat.le_of_ble_eq_true rfl) rfl (fun p e s m R args below meth c A ls hR_ hargs_ hx_ hb_ hr_ hlocks_ hml_ hown_ hts_ hname_ hsz_ hP_ hD_ hA_ hM_ hl_ => ?_)
  have key_ : ∀ Q : State → Prop, (∀ (v9 : Int) (tr9 : Int → Int) (fi9 : Int → Int) (la9 : Int → Int) (sh9 : Int → Int) (ac9 : Int → Int) (no9 : Int) (H : Heap) (locs : List Loc) (pc : Nat) (ls : Array Slot), some (v9, tr9, fi9, la9, sh9, ac9, no9) = some (rr, q_tr, q_fi, q_la, q_sh, q_ac, q_no) → decode cX3_add pc = .ok (.ireturn, 1) → va_P D vwCl [(wRo y a se tr9 fi9 la9 sh9 ac9 no9)].flatten H → va_D A [(wRo y a se tr9 fi9 la9 sh9 ac9 no9)].flatten → va_S A s.heap H locs → W p l e R s m args below meth c H locs 0 0 Q (F0 m pc ls [.int (jI v9)])) → W p l e R s m args below meth c s.heap [] 0 0 Q (F0 m 0 ls []) := by
    intro Q hE_
    have hS_ : va_S A s.heap s.heap [] := va_S.rf
    have hl_ : lv_has ls 8 [(0, .ref (a 0)), (1, .int (jI x1)), (2, .int (jI x2)), (3, .int (jI x3)), (4, .int (jI x4)), (5, .int (jI x5))] := hl_
    have hin_ : ∀ w ∈ u_ws RX3 TX3 7, w ∈ wsX3_add := by decide +kernel
    unfold f_X3_add at h_
    refine lv_aload_n hx_ hb_ dX3_add_0 rfl (lv_at hl_ 0 rfl) ?_
    refine va_get (D := D) (ci := 3) (v := .int (jI no)) (C := RX3) (T := TX3) (N := 7) hx_ hb_ hts_ hin_ hown_ hM_.1 hP_ 0 rfl rfl 6 (by decide) (hts_ (.fieldLink RX3 44 "MusicHoles$Roll" "notes" "I") (by decide +kernel)) (fun _ h9_ => h9_) rfl dX3_add_1 ?_
    refine lv_bipush (v := jI 40) hx_ hb_ dX3_add_4 (by decide +kernel) ?_
    refine jx_icmp_lt (tgt := 12) hx_ hb_ h_ dX3_add_6 (by decide) (fun h_ => ?_) (fun h_ => ?_)
    · refine lv_aload_n hx_ hb_ dX3_add_12 rfl (lv_at hl_ 0 rfl) ?_
      refine lv_iload_n hx_ hb_ dX3_add_13 rfl (lv_at hl_ 1 rfl) ?_
      refine lv_iload_n hx_ hb_ dX3_add_14 rfl (lv_at hl_ 2 rfl) ?_
      obtain ⟨v1, hv1, h_⟩ := jb_i h_
      refine jx_cvi (wr := []) (cw := [(wRo y a se tr fi la sh ac no)]) (cw1 := [(wRo y a se tr fi la sh ac no)]) (cs1 := [(wRo y a se tr fi la sh ac no)]) (As := [.int (jI x1), .int (jI x2)]) (rest := []) ⟨hx_, hb_, hml_, hown_, hts_⟩ hM_ hP_ hD_ hS_ hA_ (List.Perm.refl _) (List.Perm.refl _) (c_X3_placeFor l D y z a se tr fi la sh ac no x1 x2 fu v1 hv1) 2 gX3_add_X3_placeFor rfl ⟨rfl, rfl⟩ (by decide +kernel) ⟨by rw [hR_]; exact Nat.le_of_ble_eq_true rfl, by rw [hR_]; exact Nat.le_of_ble_eq_true rfl⟩ 0 3 rfl rfl rfl rfl rfl hl_.1 (Nat.le_of_ble_eq_true rfl) dX3_add_15 ⟨Nat.zero_le _, Nat.zero_le _⟩ (fun H locs hP_ hD_ hS_ => ?_)
      refine lv_istore (lv' := [(6, .int (jI v1)), (0, .ref (a 0)), (1, .int (jI x1)), (2, .int (jI x2)), (3, .int (jI x3)), (4, .int (jI x4)), (5, .int (jI x5))]) hx_ hb_ dX3_add_18 hl_ (by decide) rfl (fun ls hl_ => ?_)
      refine lv_aload_n hx_ hb_ dX3_add_20 rfl (lv_at hl_ 1 rfl) ?_
      refine va_get (D := D) (ci := 3) (v := .int (jI no)) (C := RX3) (T := TX3) (N := 7) hx_ hb_ hts_ hin_ hown_ hM_.1 hP_ 0 rfl rfl 6 (by decide) (hts_ (.fieldLink RX3 44 "MusicHoles$Roll" "notes" "I") (by decide +kernel)) (fun _ h9_ => h9_) rfl dX3_add_21 ?_
      refine lv_istore (lv' := [(7, .int (jI no)), (6, .int (jI v1)), (0, .ref (a 0)), (1, .int (jI x1)), (2, .int (jI x2)), (3, .int (jI x3)), (4, .int (jI x4)), (5, .int (jI x5))]) hx_ hb_ dX3_add_24 hl_ (by decide) rfl (fun ls hl_ => ?_)
      have hX49 : ∀ (tr_m2 : Int → Int) (fi_m3 : Int → Int) (la_m4 : Int → Int) (sh_m5 : Int → Int) (ac_m6 : Int → Int) (no_m7 : Int) (H : Heap) (locs : List Loc) (ls : Array Slot), f_X3_add_X49 fu x1 x2 x3 x4 x5 v1 tr_m2 fi_m3 la_m4 sh_m5 ac_m6 no_m7 = some (rr, q_tr, q_fi, q_la, q_sh, q_ac, q_no) → va_P D vwCl [(wRo y a se tr_m2 fi_m3 la_m4 sh_m5 ac_m6 no_m7)].flatten H → va_D A [(wRo y a se tr_m2 fi_m3 la_m4 sh_m5 ac_m6 no_m7)].flatten → va_S A s.heap H locs → lv_has ls 8 [(0, .ref (a 0)), (1, .int (jI x1)), (2, .int (jI x2)), (3, .int (jI x3)), (4, .int (jI x4)), (5, .int (jI x5)), (6, .int (jI v1))] → W p l e R s m args below meth c H locs 0 0 Q (F0 m 49 ls []) := by
        intro tr_m2 fi_m3 la_m4 sh_m5 ac_m6 no_m7 H locs ls h_ hP_ hD_ hS_ hl_
        unfold f_X3_add_X49 at h_
        refine lv_iload hx_ hb_ dX3_add_49 (lv_at hl_ 6 rfl) ?_
        refine lv_iconst (v := jI 0) hx_ hb_ dX3_add_51 (by decide +kernel) ?_
        refine lv_bipush (v := jI 39) hx_ hb_ dX3_add_52 (by decide +kernel) ?_
        obtain ⟨v8, hv8, h_⟩ := jb_i h_
        refine jx_cni (ws1 := []) (As := [.int (jI v1), .int (jI 0), .int (jI 39)]) (rest := []) ⟨hx_, hb_, hml_, hown_, hts_⟩ hM_ hP_ hD_ hS_ hA_ (c_X4_isIn l D y z v1 0 39 fu v8 hv8) 3 ⟨va_cnB 3 hts_ gX3_add_X4_isIn_n48 rfl rfl rfl hM_.2.1.2.2.2.2 (hts_ (.initialized RX4) (by decide +kernel)) (by decide +kernel) ⟨by rw [hR_]; exact Nat.le_of_ble_eq_true rfl, by rw [hR_]; exact Nat.le_of_ble_eq_true rfl⟩, hts_ (.static yX4_isIn) (by decide +kernel), trivial⟩ rfl rfl hl_.1 (Nat.le_of_ble_eq_true rfl) dX3_add_54 ⟨Nat.zero_le _, Nat.zero_le _⟩ (fun H locs hP_ hD_ hS_ => ?_)
        have hJ102 : ∀ (tr_m9 : Int → Int) (fi_m10 : Int → Int) (la_m11 : Int → Int) (sh_m12 : Int → Int) (ac_m13 : Int → Int) (no_m14 : Int) (H : Heap) (locs : List Loc) (ls : Array Slot), f_X3_add_J102 fu v1 tr_m9 fi_m10 la_m11 sh_m12 ac_m13 no_m14 = some (rr, q_tr, q_fi, q_la, q_sh, q_ac, q_no) → va_P D vwCl [(wRo y a se tr_m9 fi_m10 la_m11 sh_m12 ac_m13 no_m14)].flatten H → va_D A [(wRo y a se tr_m9 fi_m10 la_m11 sh_m12 ac_m13 no_m14)].flatten → va_S A s.heap H locs → lv_has ls 8 [(0, .ref (a 0)), (6, .int (jI v1))] → W p l e R s m args below meth c H locs 0 0 Q (F0 m 102 ls []) := by
          intro tr_m9 fi_m10 la_m11 sh_m12 ac_m13 no_m14 H locs ls h_ hP_ hD_ hS_ hl_
          unfold f_X3_add_J102 at h_
          refine lv_aload_n hx_ hb_ dX3_add_102 rfl (lv_at hl_ 0 rfl) ?_
          refine lv_dup hx_ hb_ dX3_add_103 rfl ?_
          refine va_get (D := D) (ci := 3) (v := .int (jI no_m14)) (C := RX3) (T := TX3) (N := 7) hx_ hb_ hts_ hin_ hown_ hM_.1 hP_ 0 rfl rfl 6 (by decide) (hts_ (.fieldLink RX3 44 "MusicHoles$Roll" "notes" "I") (by decide +kernel)) (fun _ h9_ => h9_) rfl dX3_add_104 ?_
          refine lv_iconst (v := jI 1) hx_ hb_ dX3_add_107 (by decide +kernel) ?_
          refine jx_iadd hx_ hb_ dX3_add_108 ?_
          refine va_put (D := D) (ci := 3) (v := .int (jI (no_m14 + 1))) (ty := .int) (C := RX3) (T := TX3) (N := 7) hx_ hb_ hts_ hin_ tyX3 tyX3_ok nmX3 hown_ hM_.1 hP_ hD_ hS_ 0 rfl rfl 6 (by decide) (hts_ (.fieldLink RX3 44 "MusicHoles$Roll" "notes" "I") (by decide +kernel)) (fun _ h9_ => h9_) rfl (by decide +kernel) rfl rfl (Nat.le_of_ble_eq_true rfl) dX3_add_109 (fun H locs hP_ hD_ hS_ => ?_)
          have hP_ : va_P D vwCl [(wRo y a se tr_m9 fi_m10 la_m11 sh_m12 ac_m13 (no_m14 + 1))].flatten H := hP_
          have hD_ : va_D A [(wRo y a se tr_m9 fi_m10 la_m11 sh_m12 ac_m13 (no_m14 + 1))].flatten := hD_
          refine lv_iload hx_ hb_ dX3_add_112 (lv_at hl_ 1 rfl) ?_
          exact hE_ _ _ _ _ _ _ _ _ _ _ _ h_ dX3_add_114 hP_ hD_ hS_
        refine jx_if_eq (tgt := 102) hx_ hb_ h_ dX3_add_57 (by decide) (fun h_ => ?_) (fun h_ => ?_)
        · exact hJ102 _ _ _ _ _ _ _ _ ls h_ hP_ hD_ hS_ (lv_sub hl_ [0, 6] rfl)
        · refine lv_aload_n hx_ hb_ dX3_add_60 rfl (lv_at hl_ 0 rfl) ?_
          refine va_get (D := D) (ci := 3) (v := .ref (a 2)) (C := RX3) (T := TX3) (N := 7) hx_ hb_ hts_ hin_ hown_ hM_.1 hP_ 0 rfl rfl 1 (by decide) (hts_ (.fieldLink RX3 15 "MusicHoles$Roll" "tracks" "[I") (by decide +kernel)) (fun _ h9_ => h9_) rfl dX3_add_61 ?_
          refine lv_iload hx_ hb_ dX3_add_64 (lv_at hl_ 6 rfl) ?_
          refine lv_iload_n hx_ hb_ dX3_add_66 rfl (lv_at hl_ 1 rfl) ?_
          refine jx_iast hx_ hb_ hM_ hP_ hD_ hS_ 2 0 rfl rfl rfl (Nat.le_of_ble_eq_true rfl) h_ dX3_add_67 (fun H locs h_ hP_ hD_ hS_ => ?_)
          have hP_ : va_P D vwCl [(wRo y a se (uI tr_m2 v1 x1) fi_m3 la_m4 sh_m5 ac_m6 no_m7)].flatten H := hP_
          have hD_ : va_D A [(wRo y a se (uI tr_m2 v1 x1) fi_m3 la_m4 sh_m5 ac_m6 no_m7)].flatten := hD_
          refine lv_aload_n hx_ hb_ dX3_add_68 rfl (lv_at hl_ 0 rfl) ?_
          refine va_get (D := D) (ci := 3) (v := .ref (a 3)) (C := RX3) (T := TX3) (N := 7) hx_ hb_ hts_ hin_ hown_ hM_.1 hP_ 0 rfl rfl 2 (by decide) (hts_ (.fieldLink RX3 18 "MusicHoles$Roll" "firsts" "[I") (by decide +kernel)) (fun _ h9_ => h9_) rfl dX3_add_69 ?_
          refine lv_iload hx_ hb_ dX3_add_72 (lv_at hl_ 6 rfl) ?_
          refine lv_iload_n hx_ hb_ dX3_add_74 rfl (lv_at hl_ 2 rfl) ?_
          refine jx_iast hx_ hb_ hM_ hP_ hD_ hS_ 3 0 rfl rfl rfl (Nat.le_of_ble_eq_true rfl) h_ dX3_add_75 (fun H locs h_ hP_ hD_ hS_ => ?_)
          have hP_ : va_P D vwCl [(wRo y a se (uI tr_m2 v1 x1) (uI fi_m3 v1 x2) la_m4 sh_m5 ac_m6 no_m7)].flatten H := hP_
          have hD_ : va_D A [(wRo y a se (uI tr_m2 v1 x1) (uI fi_m3 v1 x2) la_m4 sh_m5 ac_m6 no_m7)].flatten := hD_
          refine lv_aload_n hx_ hb_ dX3_add_76 rfl (lv_at hl_ 0 rfl) ?_
          refine va_get (D := D) (ci := 3) (v := .ref (a 4)) (C := RX3) (T := TX3) (N := 7) hx_ hb_ hts_ hin_ hown_ hM_.1 hP_ 0 rfl rfl 3 (by decide) (hts_ (.fieldLink RX3 21 "MusicHoles$Roll" "lasts" "[I") (by decide +kernel)) (fun _ h9_ => h9_) rfl dX3_add_77 ?_
          refine lv_iload hx_ hb_ dX3_add_80 (lv_at hl_ 6 rfl) ?_
          refine lv_iload_n hx_ hb_ dX3_add_82 rfl (lv_at hl_ 3 rfl) ?_
          refine jx_iast hx_ hb_ hM_ hP_ hD_ hS_ 4 0 rfl rfl rfl (Nat.le_of_ble_eq_true rfl) h_ dX3_add_83 (fun H locs h_ hP_ hD_ hS_ => ?_)
          have hP_ : va_P D vwCl [(wRo y a se (uI tr_m2 v1 x1) (uI fi_m3 v1 x2) (uI la_m4 v1 x3) sh_m5 ac_m6 no_m7)].flatten H := hP_
          have hD_ : va_D A [(wRo y a se (uI tr_m2 v1 x1) (uI fi_m3 v1 x2) (uI la_m4 v1 x3) sh_m5 ac_m6 no_m7)].flatten := hD_
          refine lv_aload_n hx_ hb_ dX3_add_84 rfl (lv_at hl_ 0 rfl) ?_
          refine va_get (D := D) (ci := 3) (v := .ref (a 5)) (C := RX3) (T := TX3) (N := 7) hx_ hb_ hts_ hin_ hown_ hM_.1 hP_ 0 rfl rfl 4 (by decide) (hts_ (.fieldLink RX3 24 "MusicHoles$Roll" "shifts" "[I") (by decide +kernel)) (fun _ h9_ => h9_) rfl dX3_add_85 ?_
          refine lv_iload hx_ hb_ dX3_add_88 (lv_at hl_ 6 rfl) ?_
          refine lv_iload hx_ hb_ dX3_add_90 (lv_at hl_ 4 rfl) ?_
          refine jx_iast hx_ hb_ hM_ hP_ hD_ hS_ 5 0 rfl rfl rfl (Nat.le_of_ble_eq_true rfl) h_ dX3_add_92 (fun H locs h_ hP_ hD_ hS_ => ?_)
          have hP_ : va_P D vwCl [(wRo y a se (uI tr_m2 v1 x1) (uI fi_m3 v1 x2) (uI la_m4 v1 x3) (uI sh_m5 v1 x4) ac_m6 no_m7)].flatten H := hP_
          have hD_ : va_D A [(wRo y a se (uI tr_m2 v1 x1) (uI fi_m3 v1 x2) (uI la_m4 v1 x3) (uI sh_m5 v1 x4) ac_m6 no_m7)].flatten := hD_
          refine lv_aload_n hx_ hb_ dX3_add_93 rfl (lv_at hl_ 0 rfl) ?_
          refine va_get (D := D) (ci := 3) (v := .ref (a 6)) (C := RX3) (T := TX3) (N := 7) hx_ hb_ hts_ hin_ hown_ hM_.1 hP_ 0 rfl rfl 5 (by decide) (hts_ (.fieldLink RX3 27 "MusicHoles$Roll" "accents" "[Z") (by decide +kernel)) (fun _ h9_ => h9_) rfl dX3_add_94 ?_
          refine lv_iload hx_ hb_ dX3_add_97 (lv_at hl_ 6 rfl) ?_
          refine lv_iload hx_ hb_ dX3_add_99 (lv_at hl_ 5 rfl) ?_
          refine jx_zast hx_ hb_ hM_ hP_ hD_ hS_ 6 1 rfl rfl rfl (Nat.le_of_ble_eq_true rfl) h_ dX3_add_101 (fun H locs h_ hP_ hD_ hS_ => ?_)
          have hP_ : va_P D vwCl [(wRo y a se (uI tr_m2 v1 x1) (uI fi_m3 v1 x2) (uI la_m4 v1 x3) (uI sh_m5 v1 x4) (uI ac_m6 v1 x5) no_m7)].flatten H := hP_
          have hD_ : va_D A [(wRo y a se (uI tr_m2 v1 x1) (uI fi_m3 v1 x2) (uI la_m4 v1 x3) (uI sh_m5 v1 x4) (uI ac_m6 v1 x5) no_m7)].flatten := hD_
          exact hJ102 _ _ _ _ _ _ _ _ ls h_ hP_ hD_ hS_ (lv_sub hl_ [0, 6] rfl)
      have hL26 : ∀ n26 : Nat, ∀ (tr_m15 : Int → Int) (fi_m16 : Int → Int) (la_m17 : Int → Int) (sh_m18 : Int → Int) (ac_m19 : Int → Int) (no_m20 : Int) (v21 : Int) (H : Heap) (locs : List Loc) (ls : Array Slot), f_X3_add_L26 fu v1 (f_X3_add_X49 fu x1 x2 x3 x4 x5 v1) n26 tr_m15 fi_m16 la_m17 sh_m18 ac_m19 no_m20 v21 = some (rr, q_tr, q_fi, q_la, q_sh, q_ac, q_no) → va_P D vwCl [(wRo y a se tr_m15 fi_m16 la_m17 sh_m18 ac_m19 no_m20)].flatten H → va_D A [(wRo y a se tr_m15 fi_m16 la_m17 sh_m18 ac_m19 no_m20)].flatten → va_S A s.heap H locs → lv_has ls 8 [(0, .ref (a 0)), (1, .int (jI x1)), (2, .int (jI x2)), (3, .int (jI x3)), (4, .int (jI x4)), (5, .int (jI x5)), (6, .int (jI v1)), (7, .int (jI v21))] → W p l e R s m args below meth c H locs 0 0 Q (F0 m 26 ls []) := by
        intro n26
        induction n26 with
        | zero => intro _ _ _ _ _ _ _ H locs ls h_; have h_ : (none : Option (Int × (Int → Int) × (Int → Int) × (Int → Int) × (Int → Int) × (Int → Int) × Int)) = some (rr, q_tr, q_fi, q_la, q_sh, q_ac, q_no) := h_; cases h_
        | succ n26 ih26 =>
          intro tr_m15 fi_m16 la_m17 sh_m18 ac_m19 no_m20 v21 H locs ls h_ hP_ hD_ hS_ hl_
          replace h_ : f_X3_add_L26_b fu v1 (f_X3_add_X49 fu x1 x2 x3 x4 x5 v1) (f_X3_add_L26 fu v1 (f_X3_add_X49 fu x1 x2 x3 x4 x5 v1) n26) tr_m15 fi_m16 la_m17 sh_m18 ac_m19 no_m20 v21 = some (rr, q_tr, q_fi, q_la, q_sh, q_ac, q_no) := h_
          unfold f_X3_add_L26_b at h_
          refine lv_iload hx_ hb_ dX3_add_26 (lv_at hl_ 7 rfl) ?_
          refine lv_iload hx_ hb_ dX3_add_28 (lv_at hl_ 6 rfl) ?_
          refine jx_icmp_le (tgt := 49) hx_ hb_ h_ dX3_add_30 (by decide) (fun h_ => ?_) (fun h_ => ?_)
          · exact hX49 _ _ _ _ _ _ _ _ ls h_ hP_ hD_ hS_ (lv_sub hl_ [0, 1, 2, 3, 4, 5, 6] rfl)
          · refine lv_aload_n hx_ hb_ dX3_add_33 rfl (lv_at hl_ 0 rfl) ?_
            refine lv_iload hx_ hb_ dX3_add_34 (lv_at hl_ 7 rfl) ?_
            refine lv_iconst (v := jI 1) hx_ hb_ dX3_add_36 (by decide +kernel) ?_
            refine jx_isub hx_ hb_ dX3_add_37 ?_
            refine lv_iload hx_ hb_ dX3_add_38 (lv_at hl_ 7 rfl) ?_
            obtain ⟨tr_m22, fi_m23, la_m24, sh_m25, ac_m26, htr_m22, h_⟩ := jb5_i h_
            refine jx_cvv (rv := 0) (wr := []) (cw := [(wRo y a se tr_m15 fi_m16 la_m17 sh_m18 ac_m19 no_m20)]) (cw1 := [(wRo y a se tr_m22 fi_m23 la_m24 sh_m25 ac_m26 no_m20)]) (cs1 := [(wRo y a se tr_m22 fi_m23 la_m24 sh_m25 ac_m26 no_m20)]) (As := [.int (jI (v21 - 1)), .int (jI v21)]) (rest := []) ⟨hx_, hb_, hml_, hown_, hts_⟩ hM_ hP_ hD_ hS_ hA_ (List.Perm.refl _) (List.Perm.refl _) (c_X3_move l D y z a se tr_m15 fi_m16 la_m17 sh_m18 ac_m19 no_m20 (v21 - 1) v21 fu tr_m22 fi_m23 la_m24 sh_m25 ac_m26 htr_m22) 2 gX3_add_X3_move rfl ⟨rfl, rfl⟩ (by decide +kernel) ⟨by rw [hR_]; exact Nat.le_of_ble_eq_true rfl, by rw [hR_]; exact Nat.le_of_ble_eq_true rfl⟩ 0 3 rfl rfl rfl rfl rfl hl_.1 (Nat.le_of_ble_eq_true rfl) dX3_add_40 ⟨Nat.zero_le _, Nat.zero_le _⟩ (fun H locs hP_ hD_ hS_ => ?_)
            refine lv_iinc (v := jI (v21 + (-1))) (lv' := [(7, .int (jI (v21 + (-1)))), (0, .ref (a 0)), (1, .int (jI x1)), (2, .int (jI x2)), (3, .int (jI x3)), (4, .int (jI x4)), (5, .int (jI x5)), (6, .int (jI v1))]) hx_ hb_ dX3_add_43 hl_ (k := 7) rfl (jI_add _ _) (by decide) rfl (fun ls hl_ => ?_)
            refine lv_goto (tgt := 26) hx_ hb_ dX3_add_46 (by decide) ?_
            exact ih26 _ _ _ _ _ _ _ _ _ ls h_ hP_ hD_ hS_ (lv_sub hl_ [1, 2, 3, 4, 5, 6, 7, 0] rfl)
      exact hL26 fu _ _ _ _ _ _ _ _ _ ls h_ hP_ hD_ hS_ (lv_sub hl_ [2, 3, 4, 5, 6, 7, 1, 0] rfl)
    · refine lv_bipush (v := jI (-4)) hx_ hb_ dX3_add_9 (by decide +kernel) ?_
      exact hE_ _ _ _ _ _ _ _ _ _ _ _ h_ dX3_add_11 hP_ hD_ hS_
  exact key_ _ (fun v9 tr9 fi9 la9 sh9 ac9 no9 H locs pc ls h9_ hdg_ hP_ hD_ hS_ => by cases h9_; exact jend_i hx_ hb_ hr_ hlocks_ hP_ hD_ hS_ hdg_)
