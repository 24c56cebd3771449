def rm_X1_clear : Room := { frames := 0, cells := 0, slots := 0, locals := 0 }
set_option maxRecDepth 100000 in
set_option maxHeartbeats 8000000 in
theorem c_X1_clear (l : Launch) (D : va_G) (y : Nat → ClassId) (z : Nat → Nat) (a : Nat → Nat) (tx : Int → Int) (le : Int) (po : Int) (pt : Int → Int) (pf : Int → Int) (pl : Int → Int) (pa : Int → Int) (fo : Int)  (fu : Nat) (q_le : Int) (h_ : f_X1_clear fu le = some q_le) : jCV l D y z yX1_clear wsX1_clear rm_X1_clear [.ref (a 0)] [(wPd y a tx le po pt pf pl pa fo)] [(wPd y a tx q_le po pt pf pl pa fo)] := by
  intro sz
  refine jmet (Qc := (fun A => va_Qv (fun (_ : Unit) => True) (jB D A [(wPd y a tx q_le po pt pf pl pa fo)]) A)) (cc := cX1_clear) (maxL := 1) (ret := none) (own := RX1) (by decide) rfl (Nat.le_of_ble_eq_true rfl) rfl (fun p e s m R args below meth c A ls hR_ hargs_ hx_ hb_ hr_ hlocks_ hml_ hown_ hts_ hname_ hsz_ hP_ hD_ hA_ hM_ hl_ => ?_)
  have key_ : ∀ Q : State → Prop, (∀ (le9 : Int) (H : Heap) (locs : List Loc) (pc : Nat) (ls : Array Slot), some le9 = some q_le → decode cX1_clear pc = .ok (.return_, 1) → va_P D vwCl [(wPd y a tx le9 po pt pf pl pa fo)].flatten H → va_D A [(wPd y a tx le9 po pt pf pl pa fo)].flatten → va_S A s.heap H locs → W p l e R s m args below meth c H locs 0 0 Q (F0 m pc ls [])) → W p l e R s m args below meth c s.heap [] 0 0 Q (F0 m 0 ls []) := by
    intro Q hE_
    have hS_ : va_S A s.heap s.heap [] := va_S.rf
    have hl_ : lv_has ls 1 [(0, .ref (a 0))] := hl_
    have hin_ : ∀ w ∈ u_ws RX1 TX1 8, w ∈ wsX1_clear := by decide +kernel
    unfold f_X1_clear at h_
    refine lv_aload_n hx_ hb_ dX1_clear_0 rfl (lv_at hl_ 0 rfl) ?_
    refine lv_iconst (v := jI 0) hx_ hb_ dX1_clear_1 (by decide +kernel) ?_
    refine va_put (D := D) (ci := 1) (v := .int (jI 0)) (ty := .int) (C := RX1) (T := TX1) (N := 8) hx_ hb_ hts_ hin_ tyX1 tyX1_ok nmX1 hown_ hM_.1 hP_ hD_ hS_ 0 rfl rfl 1 (by decide) (hts_ (.fieldLink RX1 29 "MusicHoles$Pad" "length" "I") (by decide +kernel)) (fun _ h9_ => h9_) rfl (by decide +kernel) rfl rfl (Nat.le_of_ble_eq_true rfl) dX1_clear_2 (fun H locs hP_ hD_ hS_ => ?_)
    have hP_ : va_P D vwCl [(wPd y a tx 0 po pt pf pl pa fo)].flatten H := hP_
    have hD_ : va_D A [(wPd y a tx 0 po pt pf pl pa fo)].flatten := hD_
    exact hE_ _ _ _ _ _ h_ dX1_clear_5 hP_ hD_ hS_
  exact key_ _ (fun le9 H locs pc ls h9_ hdg_ hP_ hD_ hS_ => by cases h9_; exact jend_v hx_ hb_ hr_ hlocks_ hP_ hD_ hS_ hdg_)
def rm_X1_length : Room := { frames := 0, cells := 0, slots := 0, locals := 0 }
set_option maxRecDepth 100000 in
set_option maxHeartbeats 8000000 in
theorem c_X1_length (l : Launch) (D : va_G) (y : Nat → ClassId) (z : Nat → Nat) (a : Nat → Nat) (tx : Int → Int) (le : Int) (po : Int) (pt : Int → Int) (pf : Int → Int) (pl : Int → Int) (pa : Int → Int) (fo : Int)  (fu : Nat) (rr : Int) (h_ : f_X1_length fu le = some rr) : jCI l D y z yX1_length wsX1_length rm_X1_length [.ref (a 0)] [(wPd y a tx le po pt pf pl pa fo)] [(wPd y a tx le po pt pf pl pa fo)] rr := by
  intro sz
  refine jmet (Qc := (fun A => va_Qi (fun v (_ : Unit) => v = jI rr) (jB D A [(wPd y a tx le po pt pf pl pa fo)]) A)) (cc := cX1_length) (maxL := 1) (ret := (some .int)) (own := RX1) (by decide) rfl (Nat.le_of_ble_eq_true rfl) rfl (fun p e s m R args below meth c A ls hR_ hargs_ hx_ hb_ hr_ hlocks_ hml_ hown_ hts_ hname_ hsz_ hP_ hD_ hA_ hM_ hl_ => ?_)
  have key_ : ∀ Q : State → Prop, (∀ (v9 : Int) (H : Heap) (locs : List Loc) (pc : Nat) (ls : Array Slot), some v9 = some rr → decode cX1_length pc = .ok (.ireturn, 1) → va_P D vwCl [(wPd y a tx le po pt pf pl pa fo)].flatten H → va_D A [(wPd y a tx le po pt pf pl pa fo)].flatten → va_S A s.heap H locs → W p l e R s m args below meth c H locs 0 0 Q (F0 m pc ls [.int (jI v9)])) → W p l e R s m args below meth c s.heap [] 0 0 Q (F0 m 0 ls []) := by
    intro Q hE_
    have hS_ : va_S A s.heap s.heap [] := va_S.rf
    have hl_ : lv_has ls 1 [(0, .ref (a 0))] := hl_
    have hin_ : ∀ w ∈ u_ws RX1 TX1 8, w ∈ wsX1_length := by decide +kernel
    unfold f_X1_length at h_
    refine lv_aload_n hx_ hb_ dX1_length_0 rfl (lv_at hl_ 0 rfl) ?_
    refine va_get (D := D) (ci := 1) (v := .int (jI le)) (C := RX1) (T := TX1) (N := 8) hx_ hb_ hts_ hin_ hown_ hM_.1 hP_ 0 rfl rfl 1 (by decide) (hts_ (.fieldLink RX1 29 "MusicHoles$Pad" "length" "I") (by decide +kernel)) (fun _ h9_ => h9_) rfl dX1_length_1 ?_
    exact hE_ _ _ _ _ _ h_ dX1_length_4 hP_ hD_ hS_
  exact key_ _ (fun v9 H locs pc ls h9_ hdg_ hP_ hD_ hS_ => by cases h9_; exact jend_i hx_ hb_ hr_ hlocks_ hP_ hD_ hS_ hdg_)
def rm_X1_append : Room := { frames := 0, cells := 0, slots := 0, locals := 0 }
set_option maxRecDepth 100000 in
set_option maxHeartbeats 8000000 in
theorem c_X1_append (l : Launch) (D : va_G) (y : Nat → ClassId) (z : Nat → Nat) (a : Nat → Nat) (tx : Int → Int) (le : Int) (po : Int) (pt : Int → Int) (pf : Int → Int) (pl : Int → Int) (pa : Int → Int) (fo : Int) (x1 : Int) (fu : Nat) (q_tx : Int → Int) (q_le : Int) (h_ : f_X1_append fu tx le x1 = some (q_tx, q_le)) : jCV l D y z yX1_append wsX1_append rm_X1_append [.ref (a 0), .int (jI x1)] [(wPd y a tx le po pt pf pl pa fo)] [(wPd y a q_tx q_le po pt pf pl pa fo)] := by
  intro sz
  refine jmet (Qc := (fun A => va_Qv (fun (_ : Unit) => True) (jB D A [(wPd y a q_tx q_le po pt pf pl pa fo)]) A)) (cc := cX1_append) (maxL := 2) (ret := none) (own := RX1) (by decide) rfl (Nat.le_of_ble_eq_true rfl) rfl (fun p e s m R args below meth c A ls hR_ hargs_ hx_ hb_ hr_ hlocks_ hml_ hown_ hts_ hname_ hsz_ hP_ hD_ hA_ hM_ hl_ => ?_)
  have key_ : ∀ Q : State → Prop, (∀ (tx9 : Int → Int) (le9 : Int) (H : Heap) (locs : List Loc) (pc : Nat) (ls : Array Slot), some (tx9, le9) = some (q_tx, q_le) → decode cX1_append pc = .ok (.return_, 1) → va_P D vwCl [(wPd y a tx9 le9 po pt pf pl pa fo)].flatten H → va_D A [(wPd y a tx9 le9 po pt pf pl pa fo)].flatten → va_S A s.heap H locs → W p l e R s m args below meth c H locs 0 0 Q (F0 m pc ls [])) → W p l e R s m args below meth c s.heap [] 0 0 Q (F0 m 0 ls []) := by
    intro Q hE_
    have hS_ : va_S A s.heap s.heap [] := va_S.rf
    have hl_ : lv_has ls 2 [(0, .ref (a 0)), (1, .int (jI x1))] := hl_
    have hin_ : ∀ w ∈ u_ws RX1 TX1 8, w ∈ wsX1_append := by decide +kernel
    unfold f_X1_append at h_
    refine lv_aload_n hx_ hb_ dX1_append_0 rfl (lv_at hl_ 0 rfl) ?_
    refine va_get (D := D) (ci := 1) (v := .int (jI le)) (C := RX1) (T := TX1) (N := 8) hx_ hb_ hts_ hin_ hown_ hM_.1 hP_ 0 rfl rfl 1 (by decide) (hts_ (.fieldLink RX1 29 "MusicHoles$Pad" "length" "I") (by decide +kernel)) (fun _ h9_ => h9_) rfl dX1_append_1 ?_
    refine lv_bipush (v := jI 60) hx_ hb_ dX1_append_4 (by decide +kernel) ?_
    refine jx_icmp_ge (tgt := 29) hx_ hb_ h_ dX1_append_6 (by decide) (fun h_ => ?_) (fun h_ => ?_)
    · exact hE_ _ _ _ _ _ _ h_ dX1_append_29 hP_ hD_ hS_
    · refine lv_aload_n hx_ hb_ dX1_append_9 rfl (lv_at hl_ 0 rfl) ?_
      refine va_get (D := D) (ci := 1) (v := .ref (a 1)) (C := RX1) (T := TX1) (N := 8) hx_ hb_ hts_ hin_ hown_ hM_.1 hP_ 0 rfl rfl 0 (by decide) (hts_ (.fieldLink RX1 11 "MusicHoles$Pad" "text" "[C") (by decide +kernel)) (fun _ h9_ => h9_) rfl dX1_append_10 ?_
      refine lv_aload_n hx_ hb_ dX1_append_13 rfl (lv_at hl_ 0 rfl) ?_
      refine va_get (D := D) (ci := 1) (v := .int (jI le)) (C := RX1) (T := TX1) (N := 8) hx_ hb_ hts_ hin_ hown_ hM_.1 hP_ 0 rfl rfl 1 (by decide) (hts_ (.fieldLink RX1 29 "MusicHoles$Pad" "length" "I") (by decide +kernel)) (fun _ h9_ => h9_) rfl dX1_append_14 ?_
      refine lv_iload_n hx_ hb_ dX1_append_17 rfl (lv_at hl_ 1 rfl) ?_
      refine jx_cast hx_ hb_ hM_ hP_ hD_ hS_ 1 2 rfl rfl rfl (Nat.le_of_ble_eq_true rfl) h_ dX1_append_18 (fun H locs h_ hP_ hD_ hS_ => ?_)
      have hP_ : va_P D vwCl [(wPd y a (uI tx le x1) le po pt pf pl pa fo)].flatten H := hP_
      have hD_ : va_D A [(wPd y a (uI tx le x1) le po pt pf pl pa fo)].flatten := hD_
      refine lv_aload_n hx_ hb_ dX1_append_19 rfl (lv_at hl_ 0 rfl) ?_
      refine lv_dup hx_ hb_ dX1_append_20 rfl ?_
      refine va_get (D := D) (ci := 1) (v := .int (jI le)) (C := RX1) (T := TX1) (N := 8) hx_ hb_ hts_ hin_ hown_ hM_.1 hP_ 0 rfl rfl 1 (by decide) (hts_ (.fieldLink RX1 29 "MusicHoles$Pad" "length" "I") (by decide +kernel)) (fun _ h9_ => h9_) rfl dX1_append_21 ?_
      refine lv_iconst (v := jI 1) hx_ hb_ dX1_append_24 (by decide +kernel) ?_
      refine jx_iadd hx_ hb_ dX1_append_25 ?_
      refine va_put (D := D) (ci := 1) (v := .int (jI (le + 1))) (ty := .int) (C := RX1) (T := TX1) (N := 8) hx_ hb_ hts_ hin_ tyX1 tyX1_ok nmX1 hown_ hM_.1 hP_ hD_ hS_ 0 rfl rfl 1 (by decide) (hts_ (.fieldLink RX1 29 "MusicHoles$Pad" "length" "I") (by decide +kernel)) (fun _ h9_ => h9_) rfl (by decide +kernel) rfl rfl (Nat.le_of_ble_eq_true rfl) dX1_append_26 (fun H locs hP_ hD_ hS_ => ?_)
      have hP_ : va_P D vwCl [(wPd y a (uI tx le x1) (le + 1) po pt pf pl pa fo)].flatten H := hP_
      have hD_ : va_D A [(wPd y a (uI tx le x1) (le + 1) po pt pf pl pa fo)].flatten := hD_
      exact hE_ _ _ _ _ _ _ h_ dX1_append_29 hP_ hD_ hS_
  exact key_ _ (fun tx9 le9 H locs pc ls h9_ hdg_ hP_ hD_ hS_ => by cases h9_; exact jend_v hx_ hb_ hr_ hlocks_ hP_ hD_ hS_ hdg_)
def rm_X1_position : Room := { frames := 0, cells := 0, slots := 0, locals := 0 }
set_option maxRecDepth 100000 in
set_option maxHeartbeats 8000000 in
theorem c_X1_position (l : Launch) (D : va_G) (y : Nat → ClassId) (z : Nat → Nat) (a : Nat → Nat) (tx : Int → Int) (le : Int) (po : Int) (pt : Int → Int) (pf : Int → Int) (pl : Int → Int) (pa : Int → Int) (fo : Int)  (fu : Nat) (rr : Int) (h_ : f_X1_position fu po = some rr) : jCI l D y z yX1_position wsX1_position rm_X1_position [.ref (a 0)] [(wPd y a tx le po pt pf pl pa fo)] [(wPd y a tx le po pt pf pl pa fo)] rr := by
  intro sz
  refine jmet (Qc := (fun A => va_Qi (fun v (_ : Unit) => v = jI rr) (jB D A [(wPd y a tx le po pt pf pl pa fo)]) A)) (cc := cX1_position) (maxL := 1) (ret := (some .int)) (own := RX1) (by decide) rfl (Nat.le_of_ble_eq_true rfl) rfl (fun p e s m R args below meth c A ls hR_ hargs_ hx_ hb_ hr_ hlocks_ hml_ hown_ hts_ hname_ hsz_ hP_ hD_ hA_ hM_ hl_ => ?_)
  have key_ : ∀ Q : State → Prop, (∀ (v9 : Int) (H : Heap) (locs : List Loc) (pc : Nat) (ls : Array Slot), some v9 = some rr → decode cX1_position pc = .ok (.ireturn, 1) → va_P D vwCl [(wPd y a tx le po pt pf pl pa fo)].flatten H → va_D A [(wPd y a tx le po pt pf pl pa fo)].flatten → va_S A s.heap H locs → W p l e R s m args below meth c H locs 0 0 Q (F0 m pc ls [.int (jI v9)])) → W p l e R s m args below meth c s.heap [] 0 0 Q (F0 m 0 ls []) := by
    intro Q hE_
    have hS_ : va_S A s.heap s.heap [] := va_S.rf
    have hl_ : lv_has ls 1 [(0, .ref (a 0))] := hl_
    have hin_ : ∀ w ∈ u_ws RX1 TX1 8, w ∈ wsX1_position := by decide +kernel
    unfold f_X1_position at h_
    refine lv_aload_n hx_ hb_ dX1_position_0 rfl (lv_at hl_ 0 rfl) ?_
    refine va_get (D := D) (ci := 1) (v := .int (jI po)) (C := RX1) (T := TX1) (N := 8) hx_ hb_ hts_ hin_ hown_ hM_.1 hP_ 0 rfl rfl 2 (by decide) (hts_ (.fieldLink RX1 33 "MusicHoles$Pad" "position" "I") (by decide +kernel)) (fun _ h9_ => h9_) rfl dX1_position_1 ?_
    exact hE_ _ _ _ _ _ h_ dX1_position_4 hP_ hD_ hS_
  exact key_ _ (fun v9 H locs pc ls h9_ hdg_ hP_ hD_ hS_ => by cases h9_; exact jend_i hx_ hb_ hr_ hlocks_ hP_ hD_ hS_ hdg_)
