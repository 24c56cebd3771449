def rm_X1_current : Room := { frames := 0, cells := 0, slots := 0, locals := 0 }
set_option maxRecDepth 100000 in
set_option maxHeartbeats 8000000 in
theorem c_X1_current (l : Launch) (D : va_G) (y : Nat → ClassId) (z : Nat → Nat) (a : Nat → Nat) (tx : Int → Int) (le : Int) (po : Int) (pt : Int → Int) (pf : Int → Int) (pl : Int → Int) (pa : Int → Int) (fo : Int)  (fu : Nat) (rr : Int) (h_ : f_X1_current fu tx le po = some rr) : jCI l D y z yX1_current wsX1_current rm_X1_current [.ref (a 0)] [(wPd y a tx le po pt pf pl pa fo)] [(wPd y a tx le po pt pf pl pa fo)] rr := by
  intro sz
  refine jmet (Qc := (fun A => va_Qi (fun v (_ : Unit) => v = jI rr) (jB D A [(wPd y a tx le po pt pf pl pa fo)]) A)) (cc := cX1_current) (maxL := 1) (ret := (some .char)) (own := RX1) (by decide) rfl (Nat.le_of_ble_eq_true rfl) rfl (fun p e s m R args below meth c A ls hR_ hargs_ hx_ hb_ hr_ hlocks_ hml_ hown_ hts_ hname_ hsz_ hP_ hD_ hA_ hM_ hl_ => ?_)
  have key_ : ∀ Q : State → Prop, (∀ (v9 : Int) (H : Heap) (locs : List Loc) (pc : Nat) (ls : Array Slot), some v9 = some rr → (0 ≤ v9 ∧ v9 < 65536) → decode cX1_current pc = .ok (.ireturn, 1) → va_P D vwCl [(wPd y a tx le po pt pf pl pa fo)].flatten H → va_D A [(wPd y a tx le po pt pf pl pa fo)].flatten → va_S A s.heap H locs → W p l e R s m args below meth c H locs 0 0 Q (F0 m pc ls [.int (jI v9)])) → W p l e R s m args below meth c s.heap [] 0 0 Q (F0 m 0 ls []) := by
    intro Q hE_
    have hS_ : va_S A s.heap s.heap [] := va_S.rf
    have hl_ : lv_has ls 1 [(0, .ref (a 0))] := hl_
    have hin_ : ∀ w ∈ u_ws RX1 TX1 8, w ∈ wsX1_current := by decide +kernel
    unfold f_X1_current at h_
    refine lv_aload_n hx_ hb_ dX1_current_0 rfl (lv_at hl_ 0 rfl) ?_
    refine va_get (D := D) (ci := 1) (v := .int (jI po)) (C := RX1) (T := TX1) (N := 8) hx_ hb_ hts_ hin_ hown_ hM_.1 hP_ 0 rfl rfl 2 (by decide) (hts_ (.fieldLink RX1 33 "MusicHoles$Pad" "position" "I") (by decide +kernel)) (fun _ h9_ => h9_) rfl dX1_current_1 ?_
    refine jx_if_lt (tgt := 39) hx_ hb_ h_ dX1_current_4 (by decide) (fun h_ => ?_) (fun h_ => ?_)
    · refine lv_iconst (v := jI 0) hx_ hb_ dX1_current_39 (by decide +kernel) ?_
      obtain ⟨hz_, h_⟩ := jch_i h_
      exact hE_ _ _ _ _ _ h_ hz_ dX1_current_40 hP_ hD_ hS_
    · refine lv_aload_n hx_ hb_ dX1_current_7 rfl (lv_at hl_ 0 rfl) ?_
      refine va_get (D := D) (ci := 1) (v := .int (jI po)) (C := RX1) (T := TX1) (N := 8) hx_ hb_ hts_ hin_ hown_ hM_.1 hP_ 0 rfl rfl 2 (by decide) (hts_ (.fieldLink RX1 33 "MusicHoles$Pad" "position" "I") (by decide +kernel)) (fun _ h9_ => h9_) rfl dX1_current_8 ?_
      refine lv_aload_n hx_ hb_ dX1_current_11 rfl (lv_at hl_ 0 rfl) ?_
      refine va_get (D := D) (ci := 1) (v := .int (jI le)) (C := RX1) (T := TX1) (N := 8) hx_ hb_ hts_ hin_ hown_ hM_.1 hP_ 0 rfl rfl 1 (by decide) (hts_ (.fieldLink RX1 29 "MusicHoles$Pad" "length" "I") (by decide +kernel)) (fun _ h9_ => h9_) rfl dX1_current_12 ?_
      refine jx_icmp_ge (tgt := 39) hx_ hb_ h_ dX1_current_15 (by decide) (fun h_ => ?_) (fun h_ => ?_)
      · refine lv_iconst (v := jI 0) hx_ hb_ dX1_current_39 (by decide +kernel) ?_
        obtain ⟨hz_, h_⟩ := jch_i h_
        exact hE_ _ _ _ _ _ h_ hz_ dX1_current_40 hP_ hD_ hS_
      · refine lv_aload_n hx_ hb_ dX1_current_18 rfl (lv_at hl_ 0 rfl) ?_
        refine va_get (D := D) (ci := 1) (v := .int (jI po)) (C := RX1) (T := TX1) (N := 8) hx_ hb_ hts_ hin_ hown_ hM_.1 hP_ 0 rfl rfl 2 (by decide) (hts_ (.fieldLink RX1 33 "MusicHoles$Pad" "position" "I") (by decide +kernel)) (fun _ h9_ => h9_) rfl dX1_current_19 ?_
        refine lv_bipush (v := jI 60) hx_ hb_ dX1_current_22 (by decide +kernel) ?_
        refine jx_icmp_ge (tgt := 39) hx_ hb_ h_ dX1_current_24 (by decide) (fun h_ => ?_) (fun h_ => ?_)
        · refine lv_iconst (v := jI 0) hx_ hb_ dX1_current_39 (by decide +kernel) ?_
          obtain ⟨hz_, h_⟩ := jch_i h_
          exact hE_ _ _ _ _ _ h_ hz_ dX1_current_40 hP_ hD_ hS_
        · refine lv_aload_n hx_ hb_ dX1_current_27 rfl (lv_at hl_ 0 rfl) ?_
          refine va_get (D := D) (ci := 1) (v := .ref (a 1)) (C := RX1) (T := TX1) (N := 8) hx_ hb_ hts_ hin_ hown_ hM_.1 hP_ 0 rfl rfl 0 (by decide) (hts_ (.fieldLink RX1 11 "MusicHoles$Pad" "text" "[C") (by decide +kernel)) (fun _ h9_ => h9_) rfl dX1_current_28 ?_
          refine lv_aload_n hx_ hb_ dX1_current_31 rfl (lv_at hl_ 0 rfl) ?_
          refine va_get (D := D) (ci := 1) (v := .int (jI po)) (C := RX1) (T := TX1) (N := 8) hx_ hb_ hts_ hin_ hown_ hM_.1 hP_ 0 rfl rfl 2 (by decide) (hts_ (.fieldLink RX1 33 "MusicHoles$Pad" "position" "I") (by decide +kernel)) (fun _ h9_ => h9_) rfl dX1_current_32 ?_
          refine jx_cald hx_ hb_ hM_ hP_ 1 2 rfl rfl rfl (Nat.le_of_ble_eq_true rfl) h_ dX1_current_35 (fun h_ => ?_)
          refine lv_goto (tgt := 40) hx_ hb_ dX1_current_36 (by decide) ?_
          obtain ⟨hz_, h_⟩ := jch_i h_
          exact hE_ _ _ _ _ _ h_ hz_ dX1_current_40 hP_ hD_ hS_
  exact key_ _ (fun v9 H locs pc ls h9_ hz_ hdg_ hP_ hD_ hS_ => by cases h9_; exact jend_c hx_ hb_ hr_ hlocks_ hz_ hP_ hD_ hS_ hdg_)
def rm_X1_digit : Room := { frames := 1, cells := 0, slots := 0, locals := 20 }
set_option maxRecDepth 100000 in
set_option maxHeartbeats 8000000 in
theorem c_X1_digit (l : Launch) (D : va_G) (y : Nat → ClassId) (z : Nat → Nat) (a : Nat → Nat) (tx : Int → Int) (le : Int) (po : Int) (pt : Int → Int) (pf : Int → Int) (pl : Int → Int) (pa : Int → Int) (fo : Int)  (fu : Nat) (rr : Int) (h_ : f_X1_digit fu tx le po = some rr) : jCI l D y z yX1_digit wsX1_digit rm_X1_digit [.ref (a 0)] [(wPd y a tx le po pt pf pl pa fo)] [(wPd y a tx le po pt pf pl pa fo)] rr := by
  intro sz
  refine jmet (Qc := (fun A => va_Qi (fun v (_ : Unit) => v = jI rr) (jB D A [(wPd y a tx le po pt pf pl pa fo)]) A)) (cc := cX1_digit) (maxL := 2) (ret := (some .int)) (own := RX1) (by decide) rfl (Nat.le_of_ble_eq_true rfl) rfl (fun p e s m R args below meth c A ls hR_ hargs_ hx_ hb_ hr_ hlocks_ hml_ hown_ hts_ hname_ hsz_ hP_ hD_ hA_ hM_ hl_ => ?_)
  have key_ : ∀ Q : State → Prop, (∀ (v9 : Int) (H : Heap) (locs : List Loc) (pc : Nat) (ls : Array Slot), some v9 = some rr → decode cX1_digit pc = .ok (.ireturn, 1) → va_P D vwCl [(wPd y a tx le po pt pf pl pa fo)].flatten H → va_D A [(wPd y a tx le po pt pf pl pa fo)].flatten → va_S A s.heap H locs → W p l e R s m args below meth c H locs 0 0 Q (F0 m pc ls [.int (jI v9)])) → W p l e R s m args below meth c s.heap [] 0 0 Q (F0 m 0 ls []) := by
    intro Q hE_
    have hS_ : va_S A s.heap s.heap [] := va_S.rf
    have hl_ : lv_has ls 2 [(0, .ref (a 0))] := hl_
    have hin_ : ∀ w ∈ u_ws RX1 TX1 8, w ∈ wsX1_digit := by decide +kernel
    unfold f_X1_digit at h_
    refine lv_aload_n hx_ hb_ dX1_digit_0 rfl (lv_at hl_ 0 rfl) ?_
    obtain ⟨v1, hv1, h_⟩ := jb_i h_
    refine jx_cvi (wr := []) (cw := [(wPd y a tx le po pt pf pl pa fo)]) (cw1 := [(wPd y a tx le po pt pf pl pa fo)]) (cs1 := [(wPd y a tx le po pt pf pl pa fo)]) (As := []) (rest := []) ⟨hx_, hb_, hml_, hown_, hts_⟩ hM_ hP_ hD_ hS_ hA_ (List.Perm.refl _) (List.Perm.refl _) (c_X1_current l D y z a tx le po pt pf pl pa fo fu v1 hv1) 0 gX1_digit_X1_current rfl ⟨rfl, rfl⟩ (by decide +kernel) ⟨by rw [hR_]; exact Nat.le_of_ble_eq_true rfl, by rw [hR_]; exact Nat.le_of_ble_eq_true rfl⟩ 0 1 rfl rfl rfl rfl rfl hl_.1 (Nat.le_of_ble_eq_true rfl) dX1_digit_1 ⟨Nat.zero_le _, Nat.zero_le _⟩ (fun H locs hP_ hD_ hS_ => ?_)
    refine lv_istore_n (lv' := [(1, .int (jI v1)), (0, .ref (a 0))]) hx_ hb_ dX1_digit_4 rfl hl_ (by decide) rfl (fun ls hl_ => ?_)
    refine lv_iload_n hx_ hb_ dX1_digit_5 rfl (lv_at hl_ 0 rfl) ?_
    refine lv_bipush (v := jI 48) hx_ hb_ dX1_digit_6 (by decide +kernel) ?_
    refine jx_icmp_lt (tgt := 24) hx_ hb_ h_ dX1_digit_8 (by decide) (fun h_ => ?_) (fun h_ => ?_)
    · refine lv_iconst (v := jI (-1)) hx_ hb_ dX1_digit_24 (by decide +kernel) ?_
      exact hE_ _ _ _ _ _ h_ dX1_digit_25 hP_ hD_ hS_
    · refine lv_iload_n hx_ hb_ dX1_digit_11 rfl (lv_at hl_ 0 rfl) ?_
      refine lv_bipush (v := jI 57) hx_ hb_ dX1_digit_12 (by decide +kernel) ?_
      refine jx_icmp_gt (tgt := 24) hx_ hb_ h_ dX1_digit_14 (by decide) (fun h_ => ?_) (fun h_ => ?_)
      · refine lv_iconst (v := jI (-1)) hx_ hb_ dX1_digit_24 (by decide +kernel) ?_
        exact hE_ _ _ _ _ _ h_ dX1_digit_25 hP_ hD_ hS_
      · refine lv_iload_n hx_ hb_ dX1_digit_17 rfl (lv_at hl_ 0 rfl) ?_
        refine lv_bipush (v := jI 48) hx_ hb_ dX1_digit_18 (by decide +kernel) ?_
        refine jx_isub hx_ hb_ dX1_digit_20 ?_
        refine lv_goto (tgt := 25) hx_ hb_ dX1_digit_21 (by decide) ?_
        exact hE_ _ _ _ _ _ h_ dX1_digit_25 hP_ hD_ hS_
  exact key_ _ (fun v9 H locs pc ls h9_ hdg_ hP_ hD_ hS_ => by cases h9_; exact jend_i hx_ hb_ hr_ hlocks_ hP_ hD_ hS_ hdg_)
def rm_X1_scanNumber : Room := { frames := 2, cells := 0, slots := 0, locals := 41 }
set_option maxRecDepth 100000 in
set_option maxHeartbeats 8000000 in
theorem c_X1_scanNumber (l : Launch) (D : va_G) (y : Nat → ClassId) (z : Nat → Nat) (a : Nat → Nat) (tx : Int → Int) (le : Int) (po : Int) (pt : Int → Int) (pf : Int → Int) (pl : Int → Int) (pa : Int → Int) (fo : Int) (x1 : Int) (fu : Nat) (rr : Int) (q_po : Int) (h_ : f_X1_scanNumber fu tx le po x1 = some (rr, q_po)) : jCI l D y z yX1_scanNumber wsX1_scanNumber rm_X1_scanNumber [.ref (a 0), .int (jI x1)] [(wPd y a tx le po pt pf pl pa fo)] [(wPd y a tx le q_po pt pf pl pa fo)] rr := by
  intro sz
  refine jmet (Qc := (fun A => va_Qi (fun v (_ : Unit) => v = jI rr) (jB D A [(wPd y a tx le q_po pt pf pl pa fo)]) A)) (cc := cX1_scanNumber) (maxL := 3) (ret := (some .int)) (own := RX1) (by decide) rfl (Nat.le_of_ble_eq_true rfl) rfl (fun p e s m R args below meth c A ls hR_ hargs_ hx_ hb_ hr_ hlocks_ hml_ hown_ hts_ hname_ hsz_ hP_ hD_ hA_ hM_ hl_ => ?_)
  have key_ : ∀ Q : State → Prop, (∀ (v9 : Int) (po9 : Int) (H : Heap) (locs : List Loc) (pc : Nat) (ls : Array Slot), some (v9, po9) = some (rr, q_po) → decode cX1_scanNumber pc = .ok (.ireturn, 1) → va_P D vwCl [(wPd y a tx le po9 pt pf pl pa fo)].flatten H → va_D A [(wPd y a tx le po9 pt pf pl pa fo)].flatten → va_S A s.heap H locs → W p l e R s m args below meth c H locs 0 0 Q (F0 m pc ls [.int (jI v9)])) → W p l e R s m args below meth c s.heap [] 0 0 Q (F0 m 0 ls []) := by
    intro Q hE_
    have hS_ : va_S A s.heap s.heap [] := va_S.rf
    have hl_ : lv_has ls 3 [(0, .ref (a 0)), (1, .int (jI x1))] := hl_
    have hin_ : ∀ w ∈ u_ws RX1 TX1 8, w ∈ wsX1_scanNumber := by decide +kernel
    unfold f_X1_scanNumber at h_
    refine lv_aload_n hx_ hb_ dX1_scanNumber_0 rfl (lv_at hl_ 0 rfl) ?_
    obtain ⟨v1, hv1, h_⟩ := jb_i h_
    refine jx_cvi (wr := []) (cw := [(wPd y a tx le po pt pf pl pa fo)]) (cw1 := [(wPd y a tx le po pt pf pl pa fo)]) (cs1 := [(wPd y a tx le po pt pf pl pa fo)]) (As := []) (rest := []) ⟨hx_, hb_, hml_, hown_, hts_⟩ hM_ hP_ hD_ hS_ hA_ (List.Perm.refl _) (List.Perm.refl _) (c_X1_digit l D y z a tx le po pt pf pl pa fo fu v1 hv1) 0 gX1_scanNumber_X1_digit rfl ⟨rfl, rfl⟩ (by decide +kernel) ⟨by rw [hR_]; exact Nat.le_of_ble_eq_true rfl, by rw [hR_]; exact Nat.le_of_ble_eq_true rfl⟩ 0 1 rfl rfl rfl rfl rfl hl_.1 (Nat.le_of_ble_eq_true rfl) dX1_scanNumber_1 ⟨Nat.zero_le _, Nat.zero_le _⟩ (fun H locs hP_ hD_ hS_ => ?_)
    refine lv_istore_n (lv' := [(2, .int (jI v1)), (0, .ref (a 0)), (1, .int (jI x1))]) hx_ hb_ dX1_scanNumber_4 rfl hl_ (by decide) rfl (fun ls hl_ => ?_)
    refine lv_iload_n hx_ hb_ dX1_scanNumber_5 rfl (lv_at hl_ 0 rfl) ?_
    refine jx_if_ge (tgt := 11) hx_ hb_ h_ dX1_scanNumber_6 (by decide) (fun h_ => ?_) (fun h_ => ?_)
    · refine lv_aload_n hx_ hb_ dX1_scanNumber_11 rfl (lv_at hl_ 1 rfl) ?_
      refine lv_dup hx_ hb_ dX1_scanNumber_12 rfl ?_
      refine va_get (D := D) (ci := 1) (v := .int (jI po)) (C := RX1) (T := TX1) (N := 8) hx_ hb_ hts_ hin_ hown_ hM_.1 hP_ 0 rfl rfl 2 (by decide) (hts_ (.fieldLink RX1 33 "MusicHoles$Pad" "position" "I") (by decide +kernel)) (fun _ h9_ => h9_) rfl dX1_scanNumber_13 ?_
      refine lv_iconst (v := jI 1) hx_ hb_ dX1_scanNumber_16 (by decide +kernel) ?_
      refine jx_iadd hx_ hb_ dX1_scanNumber_17 ?_
      refine va_put (D := D) (ci := 1) (v := .int (jI (po + 1))) (ty := .int) (C := RX1) (T := TX1) (N := 8) hx_ hb_ hts_ hin_ tyX1 tyX1_ok nmX1 hown_ hM_.1 hP_ hD_ hS_ 0 rfl rfl 2 (by decide) (hts_ (.fieldLink RX1 33 "MusicHoles$Pad" "position" "I") (by decide +kernel)) (fun _ h9_ => h9_) rfl (by decide +kernel) rfl rfl (Nat.le_of_ble_eq_true rfl) dX1_scanNumber_18 (fun H locs hP_ hD_ hS_ => ?_)
      have hP_ : va_P D vwCl [(wPd y a tx le (po + 1) pt pf pl pa fo)].flatten H := hP_
      have hD_ : va_D A [(wPd y a tx le (po + 1) pt pf pl pa fo)].flatten := hD_
      have hX79 : ∀ (po_m2 : Int) (v3 : Int) (H : Heap) (locs : List Loc) (ls : Array Slot), f_X1_scanNumber_X79 fu po_m2 v3 = some (rr, q_po) → va_P D vwCl [(wPd y a tx le po_m2 pt pf pl pa fo)].flatten H → va_D A [(wPd y a tx le po_m2 pt pf pl pa fo)].flatten → va_S A s.heap H locs → lv_has ls 3 [(2, .int (jI v3))] → W p l e R s m args below meth c H locs 0 0 Q (F0 m 79 ls []) := by
        intro po_m2 v3 H locs ls h_ hP_ hD_ hS_ hl_
        unfold f_X1_scanNumber_X79 at h_
        refine lv_iload_n hx_ hb_ dX1_scanNumber_79 rfl (lv_at hl_ 0 rfl) ?_
        exact hE_ _ _ _ _ _ _ h_ dX1_scanNumber_80 hP_ hD_ hS_
      have hL21 : ∀ n21 : Nat, ∀ (po_m4 : Int) (v5 : Int) (H : Heap) (locs : List Loc) (ls : Array Slot), f_X1_scanNumber_L21 fu tx le x1 (f_X1_scanNumber_X79 fu) n21 po_m4 v5 = some (rr, q_po) → va_P D vwCl [(wPd y a tx le po_m4 pt pf pl pa fo)].flatten H → va_D A [(wPd y a tx le po_m4 pt pf pl pa fo)].flatten → va_S A s.heap H locs → lv_has ls 3 [(0, .ref (a 0)), (1, .int (jI x1)), (2, .int (jI v5))] → W p l e R s m args below meth c H locs 0 0 Q (F0 m 21 ls []) := by
        intro n21
        induction n21 with
        | zero => intro _ _ H locs ls h_; have h_ : (none : Option (Int × Int)) = some (rr, q_po) := h_; cases h_
        | succ n21 ih21 =>
          intro po_m4 v5 H locs ls h_ hP_ hD_ hS_ hl_
          replace h_ : f_X1_scanNumber_L21_b fu tx le x1 (f_X1_scanNumber_X79 fu) (f_X1_scanNumber_L21 fu tx le x1 (f_X1_scanNumber_X79 fu) n21) po_m4 v5 = some (rr, q_po) := h_
          unfold f_X1_scanNumber_L21_b at h_
          refine lv_aload_n hx_ hb_ dX1_scanNumber_21 rfl (lv_at hl_ 0 rfl) ?_
          refine va_get (D := D) (ci := 1) (v := .int (jI po_m4)) (C := RX1) (T := TX1) (N := 8) hx_ hb_ hts_ hin_ hown_ hM_.1 hP_ 0 rfl rfl 2 (by decide) (hts_ (.fieldLink RX1 33 "MusicHoles$Pad" "position" "I") (by decide +kernel)) (fun _ h9_ => h9_) rfl dX1_scanNumber_22 ?_
          refine lv_aload_n hx_ hb_ dX1_scanNumber_25 rfl (lv_at hl_ 0 rfl) ?_
          refine va_get (D := D) (ci := 1) (v := .int (jI le)) (C := RX1) (T := TX1) (N := 8) hx_ hb_ hts_ hin_ hown_ hM_.1 hP_ 0 rfl rfl 1 (by decide) (hts_ (.fieldLink RX1 29 "MusicHoles$Pad" "length" "I") (by decide +kernel)) (fun _ h9_ => h9_) rfl dX1_scanNumber_26 ?_
          refine jx_icmp_ge (tgt := 79) hx_ hb_ h_ dX1_scanNumber_29 (by decide) (fun h_ => ?_) (fun h_ => ?_)
          · exact hX79 _ _ _ _ ls h_ hP_ hD_ hS_ (lv_sub hl_ [2] rfl)
          · refine lv_iload_n hx_ hb_ dX1_scanNumber_32 rfl (lv_at hl_ 2 rfl) ?_
            refine jx_if_le (tgt := 79) hx_ hb_ h_ dX1_scanNumber_33 (by decide) (fun h_ => ?_) (fun h_ => ?_)
            · exact hX79 _ _ _ _ ls h_ hP_ hD_ hS_ (lv_sub hl_ [2] rfl)
            · refine lv_aload_n hx_ hb_ dX1_scanNumber_36 rfl (lv_at hl_ 0 rfl) ?_
              obtain ⟨v6, hv6, h_⟩ := jb_i h_
              refine jx_cvi (wr := []) (cw := [(wPd y a tx le po_m4 pt pf pl pa fo)]) (cw1 := [(wPd y a tx le po_m4 pt pf pl pa fo)]) (cs1 := [(wPd y a tx le po_m4 pt pf pl pa fo)]) (As := []) (rest := []) ⟨hx_, hb_, hml_, hown_, hts_⟩ hM_ hP_ hD_ hS_ hA_ (List.Perm.refl _) (List.Perm.refl _) (c_X1_digit l D y z a tx le po_m4 pt pf pl pa fo fu v6 hv6) 0 gX1_scanNumber_X1_digit rfl ⟨rfl, rfl⟩ (by decide +kernel) ⟨by rw [hR_]; exact Nat.le_of_ble_eq_true rfl, by rw [hR_]; exact Nat.le_of_ble_eq_true rfl⟩ 0 1 rfl rfl rfl rfl rfl hl_.1 (Nat.le_of_ble_eq_true rfl) dX1_scanNumber_37 ⟨Nat.zero_le _, Nat.zero_le _⟩ (fun H locs hP_ hD_ hS_ => ?_)
              refine jx_if_lt (tgt := 79) hx_ hb_ h_ dX1_scanNumber_40 (by decide) (fun h_ => ?_) (fun h_ => ?_)
              · exact hX79 _ _ _ _ ls h_ hP_ hD_ hS_ (lv_sub hl_ [2] rfl)
              · refine lv_bipush (v := jI 10) hx_ hb_ dX1_scanNumber_43 (by decide +kernel) ?_
                refine lv_iload_n hx_ hb_ dX1_scanNumber_45 rfl (lv_at hl_ 2 rfl) ?_
                refine jx_imul hx_ hb_ dX1_scanNumber_46 ?_
                refine lv_aload_n hx_ hb_ dX1_scanNumber_47 rfl (lv_at hl_ 0 rfl) ?_
                obtain ⟨v7, hv7, h_⟩ := jb_i h_
                refine jx_cvi (wr := []) (cw := [(wPd y a tx le po_m4 pt pf pl pa fo)]) (cw1 := [(wPd y a tx le po_m4 pt pf pl pa fo)]) (cs1 := [(wPd y a tx le po_m4 pt pf pl pa fo)]) (As := []) (rest := [.int (jI (10 * v5))]) ⟨hx_, hb_, hml_, hown_, hts_⟩ hM_ hP_ hD_ hS_ hA_ (List.Perm.refl _) (List.Perm.refl _) (c_X1_digit l D y z a tx le po_m4 pt pf pl pa fo fu v7 hv7) 0 gX1_scanNumber_X1_digit rfl ⟨rfl, rfl⟩ (by decide +kernel) ⟨by rw [hR_]; exact Nat.le_of_ble_eq_true rfl, by rw [hR_]; exact Nat.le_of_ble_eq_true rfl⟩ 0 1 rfl rfl rfl rfl rfl hl_.1 (Nat.le_of_ble_eq_true rfl) dX1_scanNumber_48 ⟨Nat.zero_le _, Nat.zero_le _⟩ (fun H locs hP_ hD_ hS_ => ?_)
                refine jx_iadd hx_ hb_ dX1_scanNumber_51 ?_
                refine lv_iload_n hx_ hb_ dX1_scanNumber_52 rfl (lv_at hl_ 1 rfl) ?_
                refine jx_icmp_gt (tgt := 79) hx_ hb_ h_ dX1_scanNumber_53 (by decide) (fun h_ => ?_) (fun h_ => ?_)
                · exact hX79 _ _ _ _ ls h_ hP_ hD_ hS_ (lv_sub hl_ [2] rfl)
                · refine lv_bipush (v := jI 10) hx_ hb_ dX1_scanNumber_56 (by decide +kernel) ?_
                  refine lv_iload_n hx_ hb_ dX1_scanNumber_58 rfl (lv_at hl_ 2 rfl) ?_
                  refine jx_imul hx_ hb_ dX1_scanNumber_59 ?_
                  refine lv_aload_n hx_ hb_ dX1_scanNumber_60 rfl (lv_at hl_ 0 rfl) ?_
                  obtain ⟨v8, hv8, h_⟩ := jb_i h_
                  refine jx_cvi (wr := []) (cw := [(wPd y a tx le po_m4 pt pf pl pa fo)]) (cw1 := [(wPd y a tx le po_m4 pt pf pl pa fo)]) (cs1 := [(wPd y a tx le po_m4 pt pf pl pa fo)]) (As := []) (rest := [.int (jI (10 * v5))]) ⟨hx_, hb_, hml_, hown_, hts_⟩ hM_ hP_ hD_ hS_ hA_ (List.Perm.refl _) (List.Perm.refl _) (c_X1_digit l D y z a tx le po_m4 pt pf pl pa fo fu v8 hv8) 0 gX1_scanNumber_X1_digit rfl ⟨rfl, rfl⟩ (by decide +kernel) ⟨by rw [hR_]; exact Nat.le_of_ble_eq_true rfl, by rw [hR_]; exact Nat.le_of_ble_eq_true rfl⟩ 0 1 rfl rfl rfl rfl rfl hl_.1 (Nat.le_of_ble_eq_true rfl) dX1_scanNumber_61 ⟨Nat.zero_le _, Nat.zero_le _⟩ (fun H locs hP_ hD_ hS_ => ?_)
                  refine jx_iadd hx_ hb_ dX1_scanNumber_64 ?_
                  refine lv_istore_n (lv' := [(2, .int (jI ((10 * v5) + v8))), (0, .ref (a 0)), (1, .int (jI x1))]) hx_ hb_ dX1_scanNumber_65 rfl hl_ (by decide) rfl (fun ls hl_ => ?_)
                  refine lv_aload_n hx_ hb_ dX1_scanNumber_66 rfl (lv_at hl_ 1 rfl) ?_
                  refine lv_dup hx_ hb_ dX1_scanNumber_67 rfl ?_
                  refine va_get (D := D) (ci := 1) (v := .int (jI po_m4)) (C := RX1) (T := TX1) (N := 8) hx_ hb_ hts_ hin_ hown_ hM_.1 hP_ 0 rfl rfl 2 (by decide) (hts_ (.fieldLink RX1 33 "MusicHoles$Pad" "position" "I") (by decide +kernel)) (fun _ h9_ => h9_) rfl dX1_scanNumber_68 ?_
                  refine lv_iconst (v := jI 1) hx_ hb_ dX1_scanNumber_71 (by decide +kernel) ?_
                  refine jx_iadd hx_ hb_ dX1_scanNumber_72 ?_
                  refine va_put (D := D) (ci := 1) (v := .int (jI (po_m4 + 1))) (ty := .int) (C := RX1) (T := TX1) (N := 8) hx_ hb_ hts_ hin_ tyX1 tyX1_ok nmX1 hown_ hM_.1 hP_ hD_ hS_ 0 rfl rfl 2 (by decide) (hts_ (.fieldLink RX1 33 "MusicHoles$Pad" "position" "I") (by decide +kernel)) (fun _ h9_ => h9_) rfl (by decide +kernel) rfl rfl (Nat.le_of_ble_eq_true rfl) dX1_scanNumber_73 (fun H locs hP_ hD_ hS_ => ?_)
                  have hP_ : va_P D vwCl [(wPd y a tx le (po_m4 + 1) pt pf pl pa fo)].flatten H := hP_
                  have hD_ : va_D A [(wPd y a tx le (po_m4 + 1) pt pf pl pa fo)].flatten := hD_
                  refine lv_goto (tgt := 21) hx_ hb_ dX1_scanNumber_76 (by decide) ?_
                  exact ih21 _ _ _ _ ls h_ hP_ hD_ hS_ (lv_sub hl_ [1, 2, 0] rfl)
      exact hL21 fu _ _ _ _ ls h_ hP_ hD_ hS_ (lv_sub hl_ [1, 2, 0] rfl)
    · refine lv_iconst (v := jI (-1)) hx_ hb_ dX1_scanNumber_9 (by decide +kernel) ?_
      exact hE_ _ _ _ _ _ _ h_ dX1_scanNumber_10 hP_ hD_ hS_
  exact key_ _ (fun v9 po9 H locs pc ls h9_ hdg_ hP_ hD_ hS_ => by cases h9_; exact jend_i hx_ hb_ hr_ hlocks_ hP_ hD_ hS_ hdg_)
def rm_X1_accept : Room := { frames := 1, cells := 0, slots := 0, locals := 20 }
set_option maxRecDepth 100000 in
set_option maxHeartbeats 8000000 in
theorem c_X1_accept (l : Launch) (D : va_G) (y : Nat → ClassId) (z : Nat → Nat) (a : Nat → Nat) (tx : Int → Int) (le : Int) (po : Int) (pt : Int → Int) (pf : Int → Int) (pl : Int → Int) (pa : Int → Int) (fo : Int) (x1 : Int) (fu : Nat) (rr : Int) (q_po : Int) (h_ : f_X1_accept fu tx le po x1 = some (rr, q_po)) : jCI l D y z yX1_accept wsX1_accept rm_X1_accept [.ref (a 0), .int (jI x1)] [(wPd y a tx le po pt pf pl pa fo)] [(wPd y a tx le q_po pt pf pl pa fo)] rr := by
  intro sz
  refine jmet (Qc := (fun A => va_Qi (fun v (_ : Unit) => v = jI rr) (jB D A [(wPd y a tx le q_po pt pf pl pa fo)]) A)) (cc := cX1_accept) (maxL := 3) (ret := (some .boolean)) (own := RX1) (by decide) rfl (Nat.le_of_ble_eq_true rfl) rfl (fun p e s m R args below meth c A ls hR_ hargs_ hx_ hb_ hr_ hlocks_ hml_ hown_ hts_ hname_ hsz_ hP_ hD_ hA_ hM_ hl_ => ?_)
  have key_ : ∀ Q : State → Prop, (∀ (v9 : Int) (po9 : Int) (H : Heap) (locs : List Loc) (pc : Nat) (ls : Array Slot), some (v9, po9) = some (rr, q_po) → (v9 = 0 ∨ v9 = 1) → decode cX1_accept pc = .ok (.ireturn, 1) → va_P D vwCl [(wPd y a tx le po9 pt pf pl pa fo)].flatten H → va_D A [(wPd y a tx le po9 pt pf pl pa fo)].flatten → va_S A s.heap H locs → W p l e R s m args below meth c H locs 0 0 Q (F0 m pc ls [.int (jI v9)])) → W p l e R s m args below meth c s.heap [] 0 0 Q (F0 m 0 ls []) := by
    intro Q hE_
    have hS_ : va_S A s.heap s.heap [] := va_S.rf
    have hl_ : lv_has ls 3 [(0, .ref (a 0)), (1, .int (jI x1))] := hl_
    have hin_ : ∀ w ∈ u_ws RX1 TX1 8, w ∈ wsX1_accept := by decide +kernel
    unfold f_X1_accept at h_
    refine lv_aload_n hx_ hb_ dX1_accept_0 rfl (lv_at hl_ 0 rfl) ?_
    refine va_get (D := D) (ci := 1) (v := .int (jI po)) (C := RX1) (T := TX1) (N := 8) hx_ hb_ hts_ hin_ hown_ hM_.1 hP_ 0 rfl rfl 2 (by decide) (hts_ (.fieldLink RX1 33 "MusicHoles$Pad" "position" "I") (by decide +kernel)) (fun _ h9_ => h9_) rfl dX1_accept_1 ?_
    refine lv_aload_n hx_ hb_ dX1_accept_4 rfl (lv_at hl_ 0 rfl) ?_
    refine va_get (D := D) (ci := 1) (v := .int (jI le)) (C := RX1) (T := TX1) (N := 8) hx_ hb_ hts_ hin_ hown_ hM_.1 hP_ 0 rfl rfl 1 (by decide) (hts_ (.fieldLink RX1 29 "MusicHoles$Pad" "length" "I") (by decide +kernel)) (fun _ h9_ => h9_) rfl dX1_accept_5 ?_
    have hJ24 : ∀ (v1 : Int) (H : Heap) (locs : List Loc) (ls : Array Slot), f_X1_accept_J24 fu po v1 = some (rr, q_po) → va_P D vwCl [(wPd y a tx le po pt pf pl pa fo)].flatten H → va_D A [(wPd y a tx le po pt pf pl pa fo)].flatten → va_S A s.heap H locs → lv_has ls 3 [(0, .ref (a 0))] → W p l e R s m args below meth c H locs 0 0 Q (F0 m 24 ls [.int (jI v1)]) := by
      intro v1 H locs ls h_ hP_ hD_ hS_ hl_
      unfold f_X1_accept_J24 at h_
      refine lv_istore_n (lv' := [(2, .int (jI v1)), (0, .ref (a 0))]) hx_ hb_ dX1_accept_24 rfl hl_ (by decide) rfl (fun ls hl_ => ?_)
      refine lv_iload_n hx_ hb_ dX1_accept_25 rfl (lv_at hl_ 0 rfl) ?_
      refine jx_if_eq (tgt := 39) hx_ hb_ h_ dX1_accept_26 (by decide) (fun h_ => ?_) (fun h_ => ?_)
      · refine lv_iload_n hx_ hb_ dX1_accept_39 rfl (lv_at hl_ 0 rfl) ?_
        obtain ⟨hz_, h_⟩ := jbo_i h_
        exact hE_ _ _ _ _ _ _ h_ hz_ dX1_accept_40 hP_ hD_ hS_
      · refine lv_aload_n hx_ hb_ dX1_accept_29 rfl (lv_at hl_ 1 rfl) ?_
        refine lv_dup hx_ hb_ dX1_accept_30 rfl ?_
        refine va_get (D := D) (ci := 1) (v := .int (jI po)) (C := RX1) (T := TX1) (N := 8) hx_ hb_ hts_ hin_ hown_ hM_.1 hP_ 0 rfl rfl 2 (by decide) (hts_ (.fieldLink RX1 33 "MusicHoles$Pad" "position" "I") (by decide +kernel)) (fun _ h9_ => h9_) rfl dX1_accept_31 ?_
        refine lv_iconst (v := jI 1) hx_ hb_ dX1_accept_34 (by decide +kernel) ?_
        refine jx_iadd hx_ hb_ dX1_accept_35 ?_
        refine va_put (D := D) (ci := 1) (v := .int (jI (po + 1))) (ty := .int) (C := RX1) (T := TX1) (N := 8) hx_ hb_ hts_ hin_ tyX1 tyX1_ok nmX1 hown_ hM_.1 hP_ hD_ hS_ 0 rfl rfl 2 (by decide) (hts_ (.fieldLink RX1 33 "MusicHoles$Pad" "position" "I") (by decide +kernel)) (fun _ h9_ => h9_) rfl (by decide +kernel) rfl rfl (Nat.le_of_ble_eq_true rfl) dX1_accept_36 (fun H locs hP_ hD_ hS_ => ?_)
        have hP_ : va_P D vwCl [(wPd y a tx le (po + 1) pt pf pl pa fo)].flatten H := hP_
        have hD_ : va_D A [(wPd y a tx le (po + 1) pt pf pl pa fo)].flatten := hD_
        refine lv_iload_n hx_ hb_ dX1_accept_39 rfl (lv_at hl_ 0 rfl) ?_
        obtain ⟨hz_, h_⟩ := jbo_i h_
        exact hE_ _ _ _ _ _ _ h_ hz_ dX1_accept_40 hP_ hD_ hS_
    have hJ23 : ∀  (H : Heap) (locs : List Loc) (ls : Array Slot), f_X1_accept_J23 fu po = some (rr, q_po) → va_P D vwCl [(wPd y a tx le po pt pf pl pa fo)].flatten H → va_D A [(wPd y a tx le po pt pf pl pa fo)].flatten → va_S A s.heap H locs → lv_has ls 3 [(0, .ref (a 0))] → W p l e R s m args below meth c H locs 0 0 Q (F0 m 23 ls []) := by
      intro  H locs ls h_ hP_ hD_ hS_ hl_
      unfold f_X1_accept_J23 at h_
      refine lv_iconst (v := jI 0) hx_ hb_ dX1_accept_23 (by decide +kernel) ?_
      exact hJ24 _ _ _ ls h_ hP_ hD_ hS_ (lv_sub hl_ [0] rfl)
    refine jx_icmp_ge (tgt := 23) hx_ hb_ h_ dX1_accept_8 (by decide) (fun h_ => ?_) (fun h_ => ?_)
    · exact hJ23  _ _ ls h_ hP_ hD_ hS_ (lv_sub hl_ [0] rfl)
    · refine lv_aload_n hx_ hb_ dX1_accept_11 rfl (lv_at hl_ 0 rfl) ?_
      obtain ⟨v2, hv2, h_⟩ := jb_i h_
      refine jx_cvi (wr := []) (cw := [(wPd y a tx le po pt pf pl pa fo)]) (cw1 := [(wPd y a tx le po pt pf pl pa fo)]) (cs1 := [(wPd y a tx le po pt pf pl pa fo)]) (As := []) (rest := []) ⟨hx_, hb_, hml_, hown_, hts_⟩ hM_ hP_ hD_ hS_ hA_ (List.Perm.refl _) (List.Perm.refl _) (c_X1_current l D y z a tx le po pt pf pl pa fo fu v2 hv2) 0 gX1_accept_X1_current rfl ⟨rfl, rfl⟩ (by decide +kernel) ⟨by rw [hR_]; exact Nat.le_of_ble_eq_true rfl, by rw [hR_]; exact Nat.le_of_ble_eq_true rfl⟩ 0 1 rfl rfl rfl rfl rfl hl_.1 (Nat.le_of_ble_eq_true rfl) dX1_accept_12 ⟨Nat.zero_le _, Nat.zero_le _⟩ (fun H locs hP_ hD_ hS_ => ?_)
      refine lv_iload_n hx_ hb_ dX1_accept_15 rfl (lv_at hl_ 1 rfl) ?_
      refine jx_icmp_ne (tgt := 23) hx_ hb_ h_ dX1_accept_16 (by decide) (fun h_ => ?_) (fun h_ => ?_)
      · exact hJ23  _ _ ls h_ hP_ hD_ hS_ (lv_sub hl_ [0] rfl)
      · refine lv_iconst (v := jI 1) hx_ hb_ dX1_accept_19 (by decide +kernel) ?_
        refine lv_goto (tgt := 24) hx_ hb_ dX1_accept_20 (by decide) ?_
        exact hJ24 _ _ _ ls h_ hP_ hD_ hS_ (lv_sub hl_ [0] rfl)
  exact key_ _ (fun v9 po9 H locs pc ls h9_ hz_ hdg_ hP_ hD_ hS_ => by cases h9_; exact jend_z hx_ hb_ hr_ hlocks_ hz_ hP_ hD_ hS_ hdg_)
def rm_X1_keep : Room := { frames := 0, cells := 0, slots := 0, locals := 0 }
set_option maxRecDepth 100000 in
set_option maxHeartbeats 8000000 in
theorem c_X1_keep (l : Launch) (D : va_G) (y : Nat → ClassId) (z : Nat → Nat) (a : Nat → Nat) (tx : Int → Int) (le : Int) (po : Int) (pt : Int → Int) (pf : Int → Int) (pl : Int → Int) (pa : Int → Int) (fo : Int) (x1 : Int) (x2 : Int) (x3 : Int) (x4 : Int) (fu : Nat) (q_pt : Int → Int) (q_pf : Int → Int) (q_pl : Int → Int) (q_pa : Int → Int) (q_fo : Int) (h_ : f_X1_keep fu pt pf pl pa fo x1 x2 x3 x4 = some (q_pt, q_pf, q_pl, q_pa, q_fo)) : jCV l D y z yX1_keep wsX1_keep rm_X1_keep [.ref (a 0), .int (jI x1), .int (jI x2), .int (jI x3), .int (jI x4)] [(wPd y a tx le po pt pf pl pa fo)] [(wPd y a tx le po q_pt q_pf q_pl q_pa q_fo)] := by
  intro sz
  refine jmet (Qc := (fun A => va_Qv (fun (_ : Unit) => True) (jB D A [(wPd y a tx le po q_pt q_pf q_pl q_pa q_fo)]) A)) (cc := cX1_keep) (maxL := 5) (ret := none) (own := RX1) (by decide) rfl (Nat.le_of_ble_eq_true rfl) rfl (fun p e s m R args below meth c A ls hR_ hargs_ hx_ hb_ hr_ hlocks_ hml_ hown_ hts_ hname_ hsz_ hP_ hD_ hA_ hM_ hl_ => ?_)
  have key_ : ∀ Q : State → Prop, (∀ (pt9 : Int → Int) (pf9 : Int → Int) (pl9 : Int → Int) (pa9 : Int → Int) (fo9 : Int) (H : Heap) (locs : List Loc) (pc : Nat) (ls : Array Slot), some (pt9, pf9, pl9, pa9, fo9) = some (q_pt, q_pf, q_pl, q_pa, q_fo) → decode cX1_keep pc = .ok (.return_, 1) → va_P D vwCl [(wPd y a tx le po pt9 pf9 pl9 pa9 fo9)].flatten H → va_D A [(wPd y a tx le po pt9 pf9 pl9 pa9 fo9)].flatten → va_S A s.heap H locs → W p l e R s m args below meth c H locs 0 0 Q (F0 m pc ls [])) → W p l e R s m args below meth c s.heap [] 0 0 Q (F0 m 0 ls []) := by
    intro Q hE_
    have hS_ : va_S A s.heap s.heap [] := va_S.rf
    have hl_ : lv_has ls 5 [(0, .ref (a 0)), (1, .int (jI x1)), (2, .int (jI x2)), (3, .int (jI x3)), (4, .int (jI x4))] := hl_
    have hin_ : ∀ w ∈ u_ws RX1 TX1 8, w ∈ wsX1_keep := by decide +kernel
    unfold f_X1_keep at h_
    refine lv_aload_n hx_ hb_ dX1_keep_0 rfl (lv_at hl_ 0 rfl) ?_
    refine va_get (D := D) (ci := 1) (v := .int (jI fo)) (C := RX1) (T := TX1) (N := 8) hx_ hb_ hts_ hin_ hown_ hM_.1 hP_ 0 rfl rfl 7 (by decide) (hts_ (.fieldLink RX1 36 "MusicHoles$Pad" "found" "I") (by decide +kernel)) (fun _ h9_ => h9_) rfl dX1_keep_1 ?_
    refine lv_bipush (v := jI 10) hx_ hb_ dX1_keep_4 (by decide +kernel) ?_
    refine jx_icmp_ge (tgt := 60) hx_ hb_ h_ dX1_keep_6 (by decide) (fun h_ => ?_) (fun h_ => ?_)
    · exact hE_ _ _ _ _ _ _ _ _ _ h_ dX1_keep_60 hP_ hD_ hS_
    · refine lv_aload_n hx_ hb_ dX1_keep_9 rfl (lv_at hl_ 0 rfl) ?_
      refine va_get (D := D) (ci := 1) (v := .ref (a 2)) (C := RX1) (T := TX1) (N := 8) hx_ hb_ hts_ hin_ hown_ hM_.1 hP_ 0 rfl rfl 3 (by decide) (hts_ (.fieldLink RX1 15 "MusicHoles$Pad" "tracks" "[I") (by decide +kernel)) (fun _ h9_ => h9_) rfl dX1_keep_10 ?_
      refine lv_aload_n hx_ hb_ dX1_keep_13 rfl (lv_at hl_ 0 rfl) ?_
      refine va_get (D := D) (ci := 1) (v := .int (jI fo)) (C := RX1) (T := TX1) (N := 8) hx_ hb_ hts_ hin_ hown_ hM_.1 hP_ 0 rfl rfl 7 (by decide) (hts_ (.fieldLink RX1 36 "MusicHoles$Pad" "found" "I") (by decide +kernel)) (fun _ h9_ => h9_) rfl dX1_keep_14 ?_
      refine lv_iload_n hx_ hb_ dX1_keep_17 rfl (lv_at hl_ 1 rfl) ?_
      refine jx_iast hx_ hb_ hM_ hP_ hD_ hS_ 2 0 rfl rfl rfl (Nat.le_of_ble_eq_true rfl) h_ dX1_keep_18 (fun H locs h_ hP_ hD_ hS_ => ?_)
      have hP_ : va_P D vwCl [(wPd y a tx le po (uI pt fo x1) pf pl pa fo)].flatten H := hP_
      have hD_ : va_D A [(wPd y a tx le po (uI pt fo x1) pf pl pa fo)].flatten := hD_
      refine lv_aload_n hx_ hb_ dX1_keep_19 rfl (lv_at hl_ 0 rfl) ?_
      refine va_get (D := D) (ci := 1) (v := .ref (a 3)) (C := RX1) (T := TX1) (N := 8) hx_ hb_ hts_ hin_ hown_ hM_.1 hP_ 0 rfl rfl 4 (by decide) (hts_ (.fieldLink RX1 19 "MusicHoles$Pad" "firsts" "[I") (by decide +kernel)) (fun _ h9_ => h9_) rfl dX1_keep_20 ?_
      refine lv_aload_n hx_ hb_ dX1_keep_23 rfl (lv_at hl_ 0 rfl) ?_
      refine va_get (D := D) (ci := 1) (v := .int (jI fo)) (C := RX1) (T := TX1) (N := 8) hx_ hb_ hts_ hin_ hown_ hM_.1 hP_ 0 rfl rfl 7 (by decide) (hts_ (.fieldLink RX1 36 "MusicHoles$Pad" "found" "I") (by decide +kernel)) (fun _ h9_ => h9_) rfl dX1_keep_24 ?_
      refine lv_iload_n hx_ hb_ dX1_keep_27 rfl (lv_at hl_ 2 rfl) ?_
      refine jx_iast hx_ hb_ hM_ hP_ hD_ hS_ 3 0 rfl rfl rfl (Nat.le_of_ble_eq_true rfl) h_ dX1_keep_28 (fun H locs h_ hP_ hD_ hS_ => ?_)
      have hP_ : va_P D vwCl [(wPd y a tx le po (uI pt fo x1) (uI pf fo x2) pl pa fo)].flatten H := hP_
      have hD_ : va_D A [(wPd y a tx le po (uI pt fo x1) (uI pf fo x2) pl pa fo)].flatten := hD_
      refine lv_aload_n hx_ hb_ dX1_keep_29 rfl (lv_at hl_ 0 rfl) ?_
      refine va_get (D := D) (ci := 1) (v := .ref (a 4)) (C := RX1) (T := TX1) (N := 8) hx_ hb_ hts_ hin_ hown_ hM_.1 hP_ 0 rfl rfl 5 (by decide) (hts_ (.fieldLink RX1 22 "MusicHoles$Pad" "lasts" "[I") (by decide +kernel)) (fun _ h9_ => h9_) rfl dX1_keep_30 ?_
      refine lv_aload_n hx_ hb_ dX1_keep_33 rfl (lv_at hl_ 0 rfl) ?_
      refine va_get (D := D) (ci := 1) (v := .int (jI fo)) (C := RX1) (T := TX1) (N := 8) hx_ hb_ hts_ hin_ hown_ hM_.1 hP_ 0 rfl rfl 7 (by decide) (hts_ (.fieldLink RX1 36 "MusicHoles$Pad" "found" "I") (by decide +kernel)) (fun _ h9_ => h9_) rfl dX1_keep_34 ?_
      refine lv_iload_n hx_ hb_ dX1_keep_37 rfl (lv_at hl_ 3 rfl) ?_
      refine jx_iast hx_ hb_ hM_ hP_ hD_ hS_ 4 0 rfl rfl rfl (Nat.le_of_ble_eq_true rfl) h_ dX1_keep_38 (fun H locs h_ hP_ hD_ hS_ => ?_)
      have hP_ : va_P D vwCl [(wPd y a tx le po (uI pt fo x1) (uI pf fo x2) (uI pl fo x3) pa fo)].flatten H := hP_
      have hD_ : va_D A [(wPd y a tx le po (uI pt fo x1) (uI pf fo x2) (uI pl fo x3) pa fo)].flatten := hD_
      refine lv_aload_n hx_ hb_ dX1_keep_39 rfl (lv_at hl_ 0 rfl) ?_
      refine va_get (D := D) (ci := 1) (v := .ref (a 5)) (C := RX1) (T := TX1) (N := 8) hx_ hb_ hts_ hin_ hown_ hM_.1 hP_ 0 rfl rfl 6 (by decide) (hts_ (.fieldLink RX1 25 "MusicHoles$Pad" "accents" "[Z") (by decide +kernel)) (fun _ h9_ => h9_) rfl dX1_keep_40 ?_
      refine lv_aload_n hx_ hb_ dX1_keep_43 rfl (lv_at hl_ 0 rfl) ?_
      refine va_get (D := D) (ci := 1) (v := .int (jI fo)) (C := RX1) (T := TX1) (N := 8) hx_ hb_ hts_ hin_ hown_ hM_.1 hP_ 0 rfl rfl 7 (by decide) (hts_ (.fieldLink RX1 36 "MusicHoles$Pad" "found" "I") (by decide +kernel)) (fun _ h9_ => h9_) rfl dX1_keep_44 ?_
      refine lv_iload hx_ hb_ dX1_keep_47 (lv_at hl_ 4 rfl) ?_
      refine jx_zast hx_ hb_ hM_ hP_ hD_ hS_ 5 1 rfl rfl rfl (Nat.le_of_ble_eq_true rfl) h_ dX1_keep_49 (fun H locs h_ hP_ hD_ hS_ => ?_)
      have hP_ : va_P D vwCl [(wPd y a tx le po (uI pt fo x1) (uI pf fo x2) (uI pl fo x3) (uI pa fo x4) fo)].flatten H := hP_
      have hD_ : va_D A [(wPd y a tx le po (uI pt fo x1) (uI pf fo x2) (uI pl fo x3) (uI pa fo x4) fo)].flatten := hD_
      refine lv_aload_n hx_ hb_ dX1_keep_50 rfl (lv_at hl_ 0 rfl) ?_
      refine lv_dup hx_ hb_ dX1_keep_51 rfl ?_
      refine va_get (D := D) (ci := 1) (v := .int (jI fo)) (C := RX1) (T := TX1) (N := 8) hx_ hb_ hts_ hin_ hown_ hM_.1 hP_ 0 rfl rfl 7 (by decide) (hts_ (.fieldLink RX1 36 "MusicHoles$Pad" "found" "I") (by decide +kernel)) (fun _ h9_ => h9_) rfl dX1_keep_52 ?_
      refine lv_iconst (v := jI 1) hx_ hb_ dX1_keep_55 (by decide +kernel) ?_
      refine jx_iadd hx_ hb_ dX1_keep_56 ?_
      refine va_put (D := D) (ci := 1) (v := .int (jI (fo + 1))) (ty := .int) (C := RX1) (T := TX1) (N := 8) hx_ hb_ hts_ hin_ tyX1 tyX1_ok nmX1 hown_ hM_.1 hP_ hD_ hS_ 0 rfl rfl 7 (by decide) (hts_ (.fieldLink RX1 36 "MusicHoles$Pad" "found" "I") (by decide +kernel)) (fun _ h9_ => h9_) rfl (by decide +kernel) rfl rfl (Nat.le_of_ble_eq_true rfl) dX1_keep_57 (fun H locs hP_ hD_ hS_ => ?_)
      have hP_ : va_P D vwCl [(wPd y a tx le po (uI pt fo x1) (uI pf fo x2) (uI pl fo x3) (uI pa fo x4) (fo + 1))].flatten H := hP_
      have hD_ : va_D A [(wPd y a tx le po (uI pt fo x1) (uI pf fo x2) (uI pl fo x3) (uI pa fo x4) (fo + 1))].flatten := hD_
      exact hE_ _ _ _ _ _ _ _ _ _ h_ dX1_keep_60 hP_ hD_ hS_
  exact key_ _ (fun pt9 pf9 pl9 pa9 fo9 H locs pc ls h9_ hdg_ hP_ hD_ hS_ => by cases h9_; exact jend_v hx_ hb_ hr_ hlocks_ hP_ hD_ hS_ hdg_)
def rm_X1_scanNote : Room := { frames := 3, cells := 0, slots := 0, locals := 63 }
set_option maxRecDepth 100000 in
set_option maxHeartbeats 8000000 in
theorem c_X1_scanNote (l : Launch) (D : va_G) (y : Nat → ClassId) (z : Nat → Nat) (a : Nat → Nat) (tx : Int → Int) (le : Int) (po : Int) (pt : Int → Int) (pf : Int → Int) (pl : Int → Int) (pa : Int → Int) (fo : Int)  (fu : Nat) (rr : Int) (q_po : Int) (q_pt : Int → Int) (q_pf : Int → Int) (q_pl : Int → Int) (q_pa : Int → Int) (q_fo : Int) (h_ : f_X1_scanNote fu tx le po pt pf pl pa fo = some (rr, q_po, q_pt, q_pf, q_pl, q_pa, q_fo)) : jCI l D y z yX1_scanNote wsX1_scanNote rm_X1_scanNote [.ref (a 0)] [(wPd y a tx le po pt pf pl pa fo)] [(wPd y a tx le q_po q_pt q_pf q_pl q_pa q_fo)] rr := by
  intro sz
  refine jmet (Qc := (fun A => va_Qi (fun v (_ : Unit) => v = jI rr) (jB D A [(wPd y a tx le q_po q_pt q_pf q_pl q_pa q_fo)]) A)) (cc := cX1_scanNote) (maxL := 4) (ret := (some .boolean)) (own := RX1) (by decide) rfl (Nat.le_of_ble_eq_true rfl) rfl (fun p e s m R args below meth c A ls hR_ hargs_ hx_ hb_ hr_ hlocks_ hml_ hown_ hts_ hname_ hsz_ hP_ hD_ hA_ hM_ hl_ => ?_)
  have key_ : ∀ Q : State → Prop, (∀ (v9 : Int) (po9 : Int) (pt9 : Int → Int) (pf9 : Int → Int) (pl9 : Int → Int) (pa9 : Int → Int) (fo9 : Int) (H : Heap) (locs : List Loc) (pc : Nat) (ls : Array Slot), some (v9, po9, pt9, pf9, pl9, pa9, fo9) = some (rr, q_po, q_pt, q_pf, q_pl, q_pa, q_fo) → (v9 = 0 ∨ v9 = 1) → decode cX1_scanNote pc = .ok (.ireturn, 1) → va_P D vwCl [(wPd y a tx le po9 pt9 pf9 pl9 pa9 fo9)].flatten H → va_D A [(wPd y a tx le po9 pt9 pf9 pl9 pa9 fo9)].flatten → va_S A s.heap H locs → W p l e R s m args below meth c H locs 0 0 Q (F0 m pc ls [.int (jI v9)])) → W p l e R s m args below meth c s.heap [] 0 0 Q (F0 m 0 ls []) := by
    intro Q hE_
    have hS_ : va_S A s.heap s.heap [] := va_S.rf
    have hl_ : lv_has ls 4 [(0, .ref (a 0))] := hl_
    have hin_ : ∀ w ∈ u_ws RX1 TX1 8, w ∈ wsX1_scanNote := by decide +kernel
    unfold f_X1_scanNote at h_
    refine lv_aload_n hx_ hb_ dX1_scanNote_0 rfl (lv_at hl_ 0 rfl) ?_
    refine lv_bipush (v := jI 11) hx_ hb_ dX1_scanNote_1 (by decide +kernel) ?_
    obtain ⟨v1, po_m2, hv1, h_⟩ := jb2_i h_
    refine jx_cvi (wr := []) (cw := [(wPd y a tx le po pt pf pl pa fo)]) (cw1 := [(wPd y a tx le po_m2 pt pf pl pa fo)]) (cs1 := [(wPd y a tx le po_m2 pt pf pl pa fo)]) (As := [.int (jI 11)]) (rest := []) ⟨hx_, hb_, hml_, hown_, hts_⟩ hM_ hP_ hD_ hS_ hA_ (List.Perm.refl _) (List.Perm.refl _) (c_X1_scanNumber l D y z a tx le po pt pf pl pa fo 11 fu v1 po_m2 hv1) 1 gX1_scanNote_X1_scanNumber rfl ⟨rfl, rfl⟩ (by decide +kernel) ⟨by rw [hR_]; exact Nat.le_of_ble_eq_true rfl, by rw [hR_]; exact Nat.le_of_ble_eq_true rfl⟩ 0 1 rfl rfl rfl rfl rfl hl_.1 (Nat.le_of_ble_eq_true rfl) dX1_scanNote_3 ⟨Nat.zero_le _, Nat.zero_le _⟩ (fun H locs hP_ hD_ hS_ => ?_)
    refine lv_istore_n (lv' := [(1, .int (jI v1)), (0, .ref (a 0))]) hx_ hb_ dX1_scanNote_6 rfl hl_ (by decide) rfl (fun ls hl_ => ?_)
    refine lv_iload_n hx_ hb_ dX1_scanNote_7 rfl (lv_at hl_ 0 rfl) ?_
    refine jx_if_lt (tgt := 20) hx_ hb_ h_ dX1_scanNote_8 (by decide) (fun h_ => ?_) (fun h_ => ?_)
    · refine lv_iconst (v := jI 0) hx_ hb_ dX1_scanNote_20 (by decide +kernel) ?_
      obtain ⟨hz_, h_⟩ := jbo_i h_
      exact hE_ _ _ _ _ _ _ _ _ _ _ _ h_ hz_ dX1_scanNote_21 hP_ hD_ hS_
    · refine lv_aload_n hx_ hb_ dX1_scanNote_11 rfl (lv_at hl_ 1 rfl) ?_
      refine lv_bipush (v := jI 58) hx_ hb_ dX1_scanNote_12 (by decide +kernel) ?_
      obtain ⟨v3, po_m4, hv3, h_⟩ := jb2_i h_
      refine jx_cvi (wr := []) (cw := [(wPd y a tx le po_m2 pt pf pl pa fo)]) (cw1 := [(wPd y a tx le po_m4 pt pf pl pa fo)]) (cs1 := [(wPd y a tx le po_m4 pt pf pl pa fo)]) (As := [.int (jI 58)]) (rest := []) ⟨hx_, hb_, hml_, hown_, hts_⟩ hM_ hP_ hD_ hS_ hA_ (List.Perm.refl _) (List.Perm.refl _) (c_X1_accept l D y z a tx le po_m2 pt pf pl pa fo 58 fu v3 po_m4 hv3) 1 gX1_scanNote_X1_accept rfl ⟨rfl, rfl⟩ (by decide +kernel) ⟨by rw [hR_]; exact Nat.le_of_ble_eq_true rfl, by rw [hR_]; exact Nat.le_of_ble_eq_true rfl⟩ 0 1 rfl rfl rfl rfl rfl hl_.1 (Nat.le_of_ble_eq_true rfl) dX1_scanNote_14 ⟨Nat.zero_le _, Nat.zero_le _⟩ (fun H locs hP_ hD_ hS_ => ?_)
      refine jx_if_ne (tgt := 22) hx_ hb_ h_ dX1_scanNote_17 (by decide) (fun h_ => ?_) (fun h_ => ?_)
      · refine lv_aload_n hx_ hb_ dX1_scanNote_22 rfl (lv_at hl_ 1 rfl) ?_
        refine lv_bipush (v := jI 99) hx_ hb_ dX1_scanNote_23 (by decide +kernel) ?_
        obtain ⟨v5, po_m6, hv5, h_⟩ := jb2_i h_
        refine jx_cvi (wr := []) (cw := [(wPd y a tx le po_m4 pt pf pl pa fo)]) (cw1 := [(wPd y a tx le po_m6 pt pf pl pa fo)]) (cs1 := [(wPd y a tx le po_m6 pt pf pl pa fo)]) (As := [.int (jI 99)]) (rest := []) ⟨hx_, hb_, hml_, hown_, hts_⟩ hM_ hP_ hD_ hS_ hA_ (List.Perm.refl _) (List.Perm.refl _) (c_X1_scanNumber l D y z a tx le po_m4 pt pf pl pa fo 99 fu v5 po_m6 hv5) 1 gX1_scanNote_X1_scanNumber rfl ⟨rfl, rfl⟩ (by decide +kernel) ⟨by rw [hR_]; exact Nat.le_of_ble_eq_true rfl, by rw [hR_]; exact Nat.le_of_ble_eq_true rfl⟩ 0 1 rfl rfl rfl rfl rfl hl_.1 (Nat.le_of_ble_eq_true rfl) dX1_scanNote_25 ⟨Nat.zero_le _, Nat.zero_le _⟩ (fun H locs hP_ hD_ hS_ => ?_)
        refine lv_istore_n (lv' := [(2, .int (jI v5)), (1, .int (jI v1)), (0, .ref (a 0))]) hx_ hb_ dX1_scanNote_28 rfl hl_ (by decide) rfl (fun ls hl_ => ?_)
        refine lv_iload_n hx_ hb_ dX1_scanNote_29 rfl (lv_at hl_ 0 rfl) ?_
        refine jx_if_lt (tgt := 42) hx_ hb_ h_ dX1_scanNote_30 (by decide) (fun h_ => ?_) (fun h_ => ?_)
        · refine lv_iconst (v := jI 0) hx_ hb_ dX1_scanNote_42 (by decide +kernel) ?_
          obtain ⟨hz_, h_⟩ := jbo_i h_
          exact hE_ _ _ _ _ _ _ _ _ _ _ _ h_ hz_ dX1_scanNote_43 hP_ hD_ hS_
        · refine lv_aload_n hx_ hb_ dX1_scanNote_33 rfl (lv_at hl_ 2 rfl) ?_
          refine lv_bipush (v := jI 45) hx_ hb_ dX1_scanNote_34 (by decide +kernel) ?_
          obtain ⟨v7, po_m8, hv7, h_⟩ := jb2_i h_
          refine jx_cvi (wr := []) (cw := [(wPd y a tx le po_m6 pt pf pl pa fo)]) (cw1 := [(wPd y a tx le po_m8 pt pf pl pa fo)]) (cs1 := [(wPd y a tx le po_m8 pt pf pl pa fo)]) (As := [.int (jI 45)]) (rest := []) ⟨hx_, hb_, hml_, hown_, hts_⟩ hM_ hP_ hD_ hS_ hA_ (List.Perm.refl _) (List.Perm.refl _) (c_X1_accept l D y z a tx le po_m6 pt pf pl pa fo 45 fu v7 po_m8 hv7) 1 gX1_scanNote_X1_accept rfl ⟨rfl, rfl⟩ (by decide +kernel) ⟨by rw [hR_]; exact Nat.le_of_ble_eq_true rfl, by rw [hR_]; exact Nat.le_of_ble_eq_true rfl⟩ 0 1 rfl rfl rfl rfl rfl hl_.1 (Nat.le_of_ble_eq_true rfl) dX1_scanNote_36 ⟨Nat.zero_le _, Nat.zero_le _⟩ (fun H locs hP_ hD_ hS_ => ?_)
          refine jx_if_ne (tgt := 44) hx_ hb_ h_ dX1_scanNote_39 (by decide) (fun h_ => ?_) (fun h_ => ?_)
          · refine lv_aload_n hx_ hb_ dX1_scanNote_44 rfl (lv_at hl_ 2 rfl) ?_
            refine lv_bipush (v := jI 99) hx_ hb_ dX1_scanNote_45 (by decide +kernel) ?_
            obtain ⟨v9, po_m10, hv9, h_⟩ := jb2_i h_
            refine jx_cvi (wr := []) (cw := [(wPd y a tx le po_m8 pt pf pl pa fo)]) (cw1 := [(wPd y a tx le po_m10 pt pf pl pa fo)]) (cs1 := [(wPd y a tx le po_m10 pt pf pl pa fo)]) (As := [.int (jI 99)]) (rest := []) ⟨hx_, hb_, hml_, hown_, hts_⟩ hM_ hP_ hD_ hS_ hA_ (List.Perm.refl _) (List.Perm.refl _) (c_X1_scanNumber l D y z a tx le po_m8 pt pf pl pa fo 99 fu v9 po_m10 hv9) 1 gX1_scanNote_X1_scanNumber rfl ⟨rfl, rfl⟩ (by decide +kernel) ⟨by rw [hR_]; exact Nat.le_of_ble_eq_true rfl, by rw [hR_]; exact Nat.le_of_ble_eq_true rfl⟩ 0 1 rfl rfl rfl rfl rfl hl_.1 (Nat.le_of_ble_eq_true rfl) dX1_scanNote_47 ⟨Nat.zero_le _, Nat.zero_le _⟩ (fun H locs hP_ hD_ hS_ => ?_)
            refine lv_istore_n (lv' := [(3, .int (jI v9)), (2, .int (jI v5)), (1, .int (jI v1)), (0, .ref (a 0))]) hx_ hb_ dX1_scanNote_50 rfl hl_ (by decide) rfl (fun ls hl_ => ?_)
            refine lv_iload_n hx_ hb_ dX1_scanNote_51 rfl (lv_at hl_ 0 rfl) ?_
            refine jx_if_ge (tgt := 57) hx_ hb_ h_ dX1_scanNote_52 (by decide) (fun h_ => ?_) (fun h_ => ?_)
            · refine lv_aload_n hx_ hb_ dX1_scanNote_57 rfl (lv_at hl_ 3 rfl) ?_
              refine lv_iload_n hx_ hb_ dX1_scanNote_58 rfl (lv_at hl_ 2 rfl) ?_
              refine lv_iload_n hx_ hb_ dX1_scanNote_59 rfl (lv_at hl_ 1 rfl) ?_
              refine lv_iload_n hx_ hb_ dX1_scanNote_60 rfl (lv_at hl_ 0 rfl) ?_
              refine lv_aload_n hx_ hb_ dX1_scanNote_61 rfl (lv_at hl_ 3 rfl) ?_
              refine lv_bipush (v := jI 33) hx_ hb_ dX1_scanNote_62 (by decide +kernel) ?_
              obtain ⟨v11, po_m12, hv11, h_⟩ := jb2_i h_
              refine jx_cvi (wr := []) (cw := [(wPd y a tx le po_m10 pt pf pl pa fo)]) (cw1 := [(wPd y a tx le po_m12 pt pf pl pa fo)]) (cs1 := [(wPd y a tx le po_m12 pt pf pl pa fo)]) (As := [.int (jI 33)]) (rest := [.int (jI v9), .int (jI v5), .int (jI v1), .ref (a 0)]) ⟨hx_, hb_, hml_, hown_, hts_⟩ hM_ hP_ hD_ hS_ hA_ (List.Perm.refl _) (List.Perm.refl _) (c_X1_accept l D y z a tx le po_m10 pt pf pl pa fo 33 fu v11 po_m12 hv11) 1 gX1_scanNote_X1_accept rfl ⟨rfl, rfl⟩ (by decide +kernel) ⟨by rw [hR_]; exact Nat.le_of_ble_eq_true rfl, by rw [hR_]; exact Nat.le_of_ble_eq_true rfl⟩ 0 1 rfl rfl rfl rfl rfl hl_.1 (Nat.le_of_ble_eq_true rfl) dX1_scanNote_64 ⟨Nat.zero_le _, Nat.zero_le _⟩ (fun H locs hP_ hD_ hS_ => ?_)
              obtain ⟨pt_m13, pf_m14, pl_m15, pa_m16, fo_m17, hpt_m13, h_⟩ := jb5_i h_
              refine jx_cvv (rv := 0) (wr := []) (cw := [(wPd y a tx le po_m12 pt pf pl pa fo)]) (cw1 := [(wPd y a tx le po_m12 pt_m13 pf_m14 pl_m15 pa_m16 fo_m17)]) (cs1 := [(wPd y a tx le po_m12 pt_m13 pf_m14 pl_m15 pa_m16 fo_m17)]) (As := [.int (jI v1), .int (jI v5), .int (jI v9), .int (jI v11)]) (rest := []) ⟨hx_, hb_, hml_, hown_, hts_⟩ hM_ hP_ hD_ hS_ hA_ (List.Perm.refl _) (List.Perm.refl _) (c_X1_keep l D y z a tx le po_m12 pt pf pl pa fo v1 v5 v9 v11 fu pt_m13 pf_m14 pl_m15 pa_m16 fo_m17 hpt_m13) 4 gX1_scanNote_X1_keep rfl ⟨rfl, rfl⟩ (by decide +kernel) ⟨by rw [hR_]; exact Nat.le_of_ble_eq_true rfl, by rw [hR_]; exact Nat.le_of_ble_eq_true rfl⟩ 0 1 rfl rfl rfl rfl rfl hl_.1 (Nat.le_of_ble_eq_true rfl) dX1_scanNote_67 ⟨Nat.zero_le _, Nat.zero_le _⟩ (fun H locs hP_ hD_ hS_ => ?_)
              refine lv_iconst (v := jI 1) hx_ hb_ dX1_scanNote_70 (by decide +kernel) ?_
              obtain ⟨hz_, h_⟩ := jbo_i h_
              exact hE_ _ _ _ _ _ _ _ _ _ _ _ h_ hz_ dX1_scanNote_71 hP_ hD_ hS_
            · refine lv_iconst (v := jI 0) hx_ hb_ dX1_scanNote_55 (by decide +kernel) ?_
              obtain ⟨hz_, h_⟩ := jbo_i h_
              exact hE_ _ _ _ _ _ _ _ _ _ _ _ h_ hz_ dX1_scanNote_56 hP_ hD_ hS_
          · refine lv_iconst (v := jI 0) hx_ hb_ dX1_scanNote_42 (by decide +kernel) ?_
            obtain ⟨hz_, h_⟩ := jbo_i h_
            exact hE_ _ _ _ _ _ _ _ _ _ _ _ h_ hz_ dX1_scanNote_43 hP_ hD_ hS_
      · refine lv_iconst (v := jI 0) hx_ hb_ dX1_scanNote_20 (by decide +kernel) ?_
        obtain ⟨hz_, h_⟩ := jbo_i h_
        exact hE_ _ _ _ _ _ _ _ _ _ _ _ h_ hz_ dX1_scanNote_21 hP_ hD_ hS_
  exact key_ _ (fun v9 po9 pt9 pf9 pl9 pa9 fo9 H locs pc ls h9_ hz_ hdg_ hP_ hD_ hS_ => by cases h9_; exact jend_z hx_ hb_ hr_ hlocks_ hz_ hP_ hD_ hS_ hdg_)
def rm_X1_scan : Room := { frames := 4, cells := 0, slots := 0, locals := 86 }
set_option maxRecDepth 100000 in
set_option maxHeartbeats 8000000 in
theorem c_X1_scan (l : Launch) (D : va_G) (y : Nat → ClassId) (z : Nat → Nat) (a : Nat → Nat) (tx : Int → Int) (le : Int) (po : Int) (pt : Int → Int) (pf : Int → Int) (pl : Int → Int) (pa : Int → Int) (fo : Int)  (fu : Nat) (rr : Int) (q_po : Int) (q_pt : Int → Int) (q_pf : Int → Int) (q_pl : Int → Int) (q_pa : Int → Int) (q_fo : Int) (h_ : f_X1_scan fu tx le po pt pf pl pa fo = some (rr, q_po, q_pt, q_pf, q_pl, q_pa, q_fo)) : jCI l D y z yX1_scan wsX1_scan rm_X1_scan [.ref (a 0)] [(wPd y a tx le po pt pf pl pa fo)] [(wPd y a tx le q_po q_pt q_pf q_pl q_pa q_fo)] rr := by
  intro sz
  refine jmet (Qc := (fun A => va_Qi (fun v (_ : Unit) => v = jI rr) (jB D A [(wPd y a tx le q_po q_pt q_pf q_pl q_pa q_fo)]) A)) (cc := cX1_scan) (maxL := 2) (ret := (some .boolean)) (own := RX1) (by decide) rfl (Nat.le_of_ble_eq_true rfl) rfl (fun p e s m R args below meth c A ls hR_ hargs_ hx_ hb_ hr_ hlocks_ hml_ hown_ hts_ hname_ hsz_ hP_ hD_ hA_ hM_ hl_ => ?_)
  have key_ : ∀ Q : State → Prop, (∀ (v9 : Int) (po9 : Int) (pt9 : Int → Int) (pf9 : Int → Int) (pl9 : Int → Int) (pa9 : Int → Int) (fo9 : Int) (H : Heap) (locs : List Loc) (pc : Nat) (ls : Array Slot), some (v9, po9, pt9, pf9, pl9, pa9, fo9) = some (rr, q_po, q_pt, q_pf, q_pl, q_pa, q_fo) → (v9 = 0 ∨ v9 = 1) → decode cX1_scan pc = .ok (.ireturn, 1) → va_P D vwCl [(wPd y a tx le po9 pt9 pf9 pl9 pa9 fo9)].flatten H → va_D A [(wPd y a tx le po9 pt9 pf9 pl9 pa9 fo9)].flatten → va_S A s.heap H locs → W p l e R s m args below meth c H locs 0 0 Q (F0 m pc ls [.int (jI v9)])) → W p l e R s m args below meth c s.heap [] 0 0 Q (F0 m 0 ls []) := by
    intro Q hE_
    have hS_ : va_S A s.heap s.heap [] := va_S.rf
    have hl_ : lv_has ls 2 [(0, .ref (a 0))] := hl_
    have hin_ : ∀ w ∈ u_ws RX1 TX1 8, w ∈ wsX1_scan := by decide +kernel
    unfold f_X1_scan at h_
    refine lv_aload_n hx_ hb_ dX1_scan_0 rfl (lv_at hl_ 0 rfl) ?_
    refine lv_iconst (v := jI 0) hx_ hb_ dX1_scan_1 (by decide +kernel) ?_
    refine va_put (D := D) (ci := 1) (v := .int (jI 0)) (ty := .int) (C := RX1) (T := TX1) (N := 8) hx_ hb_ hts_ hin_ tyX1 tyX1_ok nmX1 hown_ hM_.1 hP_ hD_ hS_ 0 rfl rfl 2 (by decide) (hts_ (.fieldLink RX1 33 "MusicHoles$Pad" "position" "I") (by decide +kernel)) (fun _ h9_ => h9_) rfl (by decide +kernel) rfl rfl (Nat.le_of_ble_eq_true rfl) dX1_scan_2 (fun H locs hP_ hD_ hS_ => ?_)
    have hP_ : va_P D vwCl [(wPd y a tx le 0 pt pf pl pa fo)].flatten H := hP_
    have hD_ : va_D A [(wPd y a tx le 0 pt pf pl pa fo)].flatten := hD_
    refine lv_aload_n hx_ hb_ dX1_scan_5 rfl (lv_at hl_ 0 rfl) ?_
    refine lv_iconst (v := jI 0) hx_ hb_ dX1_scan_6 (by decide +kernel) ?_
    refine va_put (D := D) (ci := 1) (v := .int (jI 0)) (ty := .int) (C := RX1) (T := TX1) (N := 8) hx_ hb_ hts_ hin_ tyX1 tyX1_ok nmX1 hown_ hM_.1 hP_ hD_ hS_ 0 rfl rfl 7 (by decide) (hts_ (.fieldLink RX1 36 "MusicHoles$Pad" "found" "I") (by decide +kernel)) (fun _ h9_ => h9_) rfl (by decide +kernel) rfl rfl (Nat.le_of_ble_eq_true rfl) dX1_scan_7 (fun H locs hP_ hD_ hS_ => ?_)
    have hP_ : va_P D vwCl [(wPd y a tx le 0 pt pf pl pa 0)].flatten H := hP_
    have hD_ : va_D A [(wPd y a tx le 0 pt pf pl pa 0)].flatten := hD_
    refine lv_iconst (v := jI 0) hx_ hb_ dX1_scan_10 (by decide +kernel) ?_
    refine lv_istore_n (lv' := [(1, .int (jI 0)), (0, .ref (a 0))]) hx_ hb_ dX1_scan_11 rfl hl_ (by decide) rfl (fun ls hl_ => ?_)
    have hX59 : ∀ (po_m1 : Int) (pt_m2 : Int → Int) (pf_m3 : Int → Int) (pl_m4 : Int → Int) (pa_m5 : Int → Int) (fo_m6 : Int) (H : Heap) (locs : List Loc) (ls : Array Slot), f_X1_scan_X59 fu po_m1 pt_m2 pf_m3 pl_m4 pa_m5 fo_m6 = some (rr, q_po, q_pt, q_pf, q_pl, q_pa, q_fo) → va_P D vwCl [(wPd y a tx le po_m1 pt_m2 pf_m3 pl_m4 pa_m5 fo_m6)].flatten H → va_D A [(wPd y a tx le po_m1 pt_m2 pf_m3 pl_m4 pa_m5 fo_m6)].flatten → va_S A s.heap H locs → lv_has ls 2 [] → W p l e R s m args below meth c H locs 0 0 Q (F0 m 59 ls []) := by
      intro po_m1 pt_m2 pf_m3 pl_m4 pa_m5 fo_m6 H locs ls h_ hP_ hD_ hS_ hl_
      unfold f_X1_scan_X59 at h_
      refine lv_iconst (v := jI 0) hx_ hb_ dX1_scan_59 (by decide +kernel) ?_
      obtain ⟨hz_, h_⟩ := jbo_i h_
      exact hE_ _ _ _ _ _ _ _ _ _ _ _ h_ hz_ dX1_scan_60 hP_ hD_ hS_
    have hL12 : ∀ n12 : Nat, ∀ (po_m7 : Int) (pt_m8 : Int → Int) (pf_m9 : Int → Int) (pl_m10 : Int → Int) (pa_m11 : Int → Int) (fo_m12 : Int) (v13 : Int) (H : Heap) (locs : List Loc) (ls : Array Slot), f_X1_scan_L12 fu tx le (f_X1_scan_X59 fu) n12 po_m7 pt_m8 pf_m9 pl_m10 pa_m11 fo_m12 v13 = some (rr, q_po, q_pt, q_pf, q_pl, q_pa, q_fo) → va_P D vwCl [(wPd y a tx le po_m7 pt_m8 pf_m9 pl_m10 pa_m11 fo_m12)].flatten H → va_D A [(wPd y a tx le po_m7 pt_m8 pf_m9 pl_m10 pa_m11 fo_m12)].flatten → va_S A s.heap H locs → lv_has ls 2 [(0, .ref (a 0)), (1, .int (jI v13))] → W p l e R s m args below meth c H locs 0 0 Q (F0 m 12 ls []) := by
      intro n12
      induction n12 with
      | zero => intro _ _ _ _ _ _ _ H locs ls h_; have h_ : (none : Option (Int × Int × (Int → Int) × (Int → Int) × (Int → Int) × (Int → Int) × Int)) = some (rr, q_po, q_pt, q_pf, q_pl, q_pa, q_fo) := h_; cases h_
      | succ n12 ih12 =>
        intro po_m7 pt_m8 pf_m9 pl_m10 pa_m11 fo_m12 v13 H locs ls h_ hP_ hD_ hS_ hl_
        replace h_ : f_X1_scan_L12_b fu tx le (f_X1_scan_X59 fu) (f_X1_scan_L12 fu tx le (f_X1_scan_X59 fu) n12) po_m7 pt_m8 pf_m9 pl_m10 pa_m11 fo_m12 v13 = some (rr, q_po, q_pt, q_pf, q_pl, q_pa, q_fo) := h_
        unfold f_X1_scan_L12_b at h_
        refine lv_iload_n hx_ hb_ dX1_scan_12 rfl (lv_at hl_ 1 rfl) ?_
        refine lv_bipush (v := jI 10) hx_ hb_ dX1_scan_13 (by decide +kernel) ?_
        refine jx_icmp_ge (tgt := 59) hx_ hb_ h_ dX1_scan_15 (by decide) (fun h_ => ?_) (fun h_ => ?_)
        · exact hX59 _ _ _ _ _ _ _ _ ls h_ hP_ hD_ hS_ (lv_sub hl_ [] rfl)
        · refine lv_aload_n hx_ hb_ dX1_scan_18 rfl (lv_at hl_ 0 rfl) ?_
          obtain ⟨v14, po_m15, pt_m16, pf_m17, pl_m18, pa_m19, fo_m20, hv14, h_⟩ := jb7_i h_
          refine jx_cvi (wr := []) (cw := [(wPd y a tx le po_m7 pt_m8 pf_m9 pl_m10 pa_m11 fo_m12)]) (cw1 := [(wPd y a tx le po_m15 pt_m16 pf_m17 pl_m18 pa_m19 fo_m20)]) (cs1 := [(wPd y a tx le po_m15 pt_m16 pf_m17 pl_m18 pa_m19 fo_m20)]) (As := []) (rest := []) ⟨hx_, hb_, hml_, hown_, hts_⟩ hM_ hP_ hD_ hS_ hA_ (List.Perm.refl _) (List.Perm.refl _) (c_X1_scanNote l D y z a tx le po_m7 pt_m8 pf_m9 pl_m10 pa_m11 fo_m12 fu v14 po_m15 pt_m16 pf_m17 pl_m18 pa_m19 fo_m20 hv14) 0 gX1_scan_X1_scanNote rfl ⟨rfl, rfl⟩ (by decide +kernel) ⟨by rw [hR_]; exact Nat.le_of_ble_eq_true rfl, by rw [hR_]; exact Nat.le_of_ble_eq_true rfl⟩ 0 1 rfl rfl rfl rfl rfl hl_.1 (Nat.le_of_ble_eq_true rfl) dX1_scan_19 ⟨Nat.zero_le _, Nat.zero_le _⟩ (fun H locs hP_ hD_ hS_ => ?_)
          refine jx_if_ne (tgt := 27) hx_ hb_ h_ dX1_scan_22 (by decide) (fun h_ => ?_) (fun h_ => ?_)
          · refine lv_aload_n hx_ hb_ dX1_scan_27 rfl (lv_at hl_ 0 rfl) ?_
            refine lv_bipush (v := jI 59) hx_ hb_ dX1_scan_28 (by decide +kernel) ?_
            obtain ⟨v21, po_m22, hv21, h_⟩ := jb2_i h_
            refine jx_cvi (wr := []) (cw := [(wPd y a tx le po_m15 pt_m16 pf_m17 pl_m18 pa_m19 fo_m20)]) (cw1 := [(wPd y a tx le po_m22 pt_m16 pf_m17 pl_m18 pa_m19 fo_m20)]) (cs1 := [(wPd y a tx le po_m22 pt_m16 pf_m17 pl_m18 pa_m19 fo_m20)]) (As := [.int (jI 59)]) (rest := []) ⟨hx_, hb_, hml_, hown_, hts_⟩ hM_ hP_ hD_ hS_ hA_ (List.Perm.refl _) (List.Perm.refl _) (c_X1_accept l D y z a tx le po_m15 pt_m16 pf_m17 pl_m18 pa_m19 fo_m20 59 fu v21 po_m22 hv21) 1 gX1_scan_X1_accept rfl ⟨rfl, rfl⟩ (by decide +kernel) ⟨by rw [hR_]; exact Nat.le_of_ble_eq_true rfl, by rw [hR_]; exact Nat.le_of_ble_eq_true rfl⟩ 0 1 rfl rfl rfl rfl rfl hl_.1 (Nat.le_of_ble_eq_true rfl) dX1_scan_30 ⟨Nat.zero_le _, Nat.zero_le _⟩ (fun H locs hP_ hD_ hS_ => ?_)
            refine jx_if_ne (tgt := 53) hx_ hb_ h_ dX1_scan_33 (by decide) (fun h_ => ?_) (fun h_ => ?_)
            · refine lv_iinc (v := jI (v13 + 1)) (lv' := [(1, .int (jI (v13 + 1))), (0, .ref (a 0))]) hx_ hb_ dX1_scan_53 hl_ (k := 1) rfl (jI_add _ _) (by decide) rfl (fun ls hl_ => ?_)
              refine lv_goto (tgt := 12) hx_ hb_ dX1_scan_56 (by decide) ?_
              exact ih12 _ _ _ _ _ _ _ _ _ ls h_ hP_ hD_ hS_ (lv_sub hl_ [1, 0] rfl)
            · refine lv_aload_n hx_ hb_ dX1_scan_36 rfl (lv_at hl_ 0 rfl) ?_
              refine va_get (D := D) (ci := 1) (v := .int (jI po_m22)) (C := RX1) (T := TX1) (N := 8) hx_ hb_ hts_ hin_ hown_ hM_.1 hP_ 0 rfl rfl 2 (by decide) (hts_ (.fieldLink RX1 33 "MusicHoles$Pad" "position" "I") (by decide +kernel)) (fun _ h9_ => h9_) rfl dX1_scan_37 ?_
              refine lv_aload_n hx_ hb_ dX1_scan_40 rfl (lv_at hl_ 0 rfl) ?_
              refine va_get (D := D) (ci := 1) (v := .int (jI le)) (C := RX1) (T := TX1) (N := 8) hx_ hb_ hts_ hin_ hown_ hM_.1 hP_ 0 rfl rfl 1 (by decide) (hts_ (.fieldLink RX1 29 "MusicHoles$Pad" "length" "I") (by decide +kernel)) (fun _ h9_ => h9_) rfl dX1_scan_41 ?_
              refine jx_icmp_ne (tgt := 51) hx_ hb_ h_ dX1_scan_44 (by decide) (fun h_ => ?_) (fun h_ => ?_)
              · refine lv_iconst (v := jI 0) hx_ hb_ dX1_scan_51 (by decide +kernel) ?_
                obtain ⟨hz_, h_⟩ := jbo_i h_
                exact hE_ _ _ _ _ _ _ _ _ _ _ _ h_ hz_ dX1_scan_52 hP_ hD_ hS_
              · refine lv_iconst (v := jI 1) hx_ hb_ dX1_scan_47 (by decide +kernel) ?_
                refine lv_goto (tgt := 52) hx_ hb_ dX1_scan_48 (by decide) ?_
                obtain ⟨hz_, h_⟩ := jbo_i h_
                exact hE_ _ _ _ _ _ _ _ _ _ _ _ h_ hz_ dX1_scan_52 hP_ hD_ hS_
          · refine lv_iconst (v := jI 0) hx_ hb_ dX1_scan_25 (by decide +kernel) ?_
            obtain ⟨hz_, h_⟩ := jbo_i h_
            exact hE_ _ _ _ _ _ _ _ _ _ _ _ h_ hz_ dX1_scan_26 hP_ hD_ hS_
    exact hL12 fu _ _ _ _ _ _ _ _ _ ls h_ hP_ hD_ hS_ (lv_sub hl_ [1, 0] rfl)
  exact key_ _ (fun v9 po9 pt9 pf9 pl9 pa9 fo9 H locs pc ls h9_ hz_ hdg_ hP_ hD_ hS_ => by cases h9_; exact jend_z hx_ hb_ hr_ hlocks_ hz_ hP_ hD_ hS_ hdg_)
def rm_X1_isFound : Room := { frames := 0, cells := 0, slots := 0, locals := 0 }
set_option maxRecDepth 100000 in
set_option maxHeartbeats 8000000 in
theorem c_X1_isFound (l : Launch) (D : va_G) (y : Nat → ClassId) (z : Nat → Nat) (a : Nat → Nat) (tx : Int → Int) (le : Int) (po : Int) (pt : Int → Int) (pf : Int → Int) (pl : Int → Int) (pa : Int → Int) (fo : Int) (x1 : Int) (fu : Nat) (rr : Int) (h_ : f_X1_isFound fu fo x1 = some rr) : jCI l D y z yX1_isFound wsX1_isFound rm_X1_isFound [.ref (a 0), .int (jI x1)] [(wPd y a tx le po pt pf pl pa fo)] [(wPd y a tx le po pt pf pl pa fo)] rr := by
  intro sz
  refine jmet (Qc := (fun A => va_Qi (fun v (_ : Unit) => v = jI rr) (jB D A [(wPd y a tx le po pt pf pl pa fo)]) A)) (cc := cX1_isFound) (maxL := 2) (ret := (some .boolean)) (own := RX1) (by decide) rfl (Nat.le_of_ble_eq_true rfl) rfl (fun p e s m R args below meth c A ls hR_ hargs_ hx_ hb_ hr_ hlocks_ hml_ hown_ hts_ hname_ hsz_ hP_ hD_ hA_ hM_ hl_ => ?_)
  have key_ : ∀ Q : State → Prop, (∀ (v9 : Int) (H : Heap) (locs : List Loc) (pc : Nat) (ls : Array Slot), some v9 = some rr → (v9 = 0 ∨ v9 = 1) → decode cX1_isFound pc = .ok (.ireturn, 1) → va_P D vwCl [(wPd y a tx le po pt pf pl pa fo)].flatten H → va_D A [(wPd y a tx le po pt pf pl pa fo)].flatten → va_S A s.heap H locs → W p l e R s m args below meth c H locs 0 0 Q (F0 m pc ls [.int (jI v9)])) → W p l e R s m args below meth c s.heap [] 0 0 Q (F0 m 0 ls []) := by
    intro Q hE_
    have hS_ : va_S A s.heap s.heap [] := va_S.rf
    have hl_ : lv_has ls 2 [(0, .ref (a 0)), (1, .int (jI x1))] := hl_
    have hin_ : ∀ w ∈ u_ws RX1 TX1 8, w ∈ wsX1_isFound := by decide +kernel
    unfold f_X1_isFound at h_
    refine lv_iload_n hx_ hb_ dX1_isFound_0 rfl (lv_at hl_ 1 rfl) ?_
    refine jx_if_lt (tgt := 22) hx_ hb_ h_ dX1_isFound_1 (by decide) (fun h_ => ?_) (fun h_ => ?_)
    · refine lv_iconst (v := jI 0) hx_ hb_ dX1_isFound_22 (by decide +kernel) ?_
      obtain ⟨hz_, h_⟩ := jbo_i h_
      exact hE_ _ _ _ _ _ h_ hz_ dX1_isFound_23 hP_ hD_ hS_
    · refine lv_iload_n hx_ hb_ dX1_isFound_4 rfl (lv_at hl_ 1 rfl) ?_
      refine lv_aload_n hx_ hb_ dX1_isFound_5 rfl (lv_at hl_ 0 rfl) ?_
      refine va_get (D := D) (ci := 1) (v := .int (jI fo)) (C := RX1) (T := TX1) (N := 8) hx_ hb_ hts_ hin_ hown_ hM_.1 hP_ 0 rfl rfl 7 (by decide) (hts_ (.fieldLink RX1 36 "MusicHoles$Pad" "found" "I") (by decide +kernel)) (fun _ h9_ => h9_) rfl dX1_isFound_6 ?_
      refine jx_icmp_ge (tgt := 22) hx_ hb_ h_ dX1_isFound_9 (by decide) (fun h_ => ?_) (fun h_ => ?_)
      · refine lv_iconst (v := jI 0) hx_ hb_ dX1_isFound_22 (by decide +kernel) ?_
        obtain ⟨hz_, h_⟩ := jbo_i h_
        exact hE_ _ _ _ _ _ h_ hz_ dX1_isFound_23 hP_ hD_ hS_
      · refine lv_iload_n hx_ hb_ dX1_isFound_12 rfl (lv_at hl_ 1 rfl) ?_
        refine lv_bipush (v := jI 10) hx_ hb_ dX1_isFound_13 (by decide +kernel) ?_
        refine jx_icmp_ge (tgt := 22) hx_ hb_ h_ dX1_isFound_15 (by decide) (fun h_ => ?_) (fun h_ => ?_)
        · refine lv_iconst (v := jI 0) hx_ hb_ dX1_isFound_22 (by decide +kernel) ?_
          obtain ⟨hz_, h_⟩ := jbo_i h_
          exact hE_ _ _ _ _ _ h_ hz_ dX1_isFound_23 hP_ hD_ hS_
        · refine lv_iconst (v := jI 1) hx_ hb_ dX1_isFound_18 (by decide +kernel) ?_
          refine lv_goto (tgt := 23) hx_ hb_ dX1_isFound_19 (by decide) ?_
          obtain ⟨hz_, h_⟩ := jbo_i h_
          exact hE_ _ _ _ _ _ h_ hz_ dX1_isFound_23 hP_ hD_ hS_
  exact key_ _ (fun v9 H locs pc ls h9_ hz_ hdg_ hP_ hD_ hS_ => by cases h9_; exact jend_z hx_ hb_ hr_ hlocks_ hz_ hP_ hD_ hS_ hdg_)
def rm_X1_foundLast : Room := { frames := 1, cells := 0, slots := 0, locals := 21 }
set_option maxRecDepth 100000 in
set_option maxHeartbeats 8000000 in
theorem c_X1_foundLast (l : Launch) (D : va_G) (y : Nat → ClassId) (z : Nat → Nat) (a : Nat → Nat) (tx : Int → Int) (le : Int) (po : Int) (pt : Int → Int) (pf : Int → Int) (pl : Int → Int) (pa : Int → Int) (fo : Int) (x1 : Int) (fu : Nat) (rr : Int) (h_ : f_X1_foundLast fu pl fo x1 = some rr) : jCI l D y z yX1_foundLast wsX1_foundLast rm_X1_foundLast [.ref (a 0), .int (jI x1)] [(wPd y a tx le po pt pf pl pa fo)] [(wPd y a tx le po pt pf pl pa fo)] rr := by
  intro sz
  refine jmet (Qc := (fun A => va_Qi (fun v (_ : Unit) => v = jI rr) (jB D A [(wPd y a tx le po pt pf pl pa fo)]) A)) (cc := cX1_foundLast) (maxL := 2) (ret := (some .int)) (own := RX1) (by decide) rfl (Nat.le_of_ble_eq_true rfl) rfl (fun p e s m R args below meth c A ls hR_ hargs_ hx_ hb_ hr_ hlocks_ hml_ hown_ hts_ hname_ hsz_ hP_ hD_ hA_ hM_ hl_ => ?_)
  have key_ : ∀ Q : State → Prop, (∀ (v9 : Int) (H : Heap) (locs : List Loc) (pc : Nat) (ls : Array Slot), some v9 = some rr → decode cX1_foundLast pc = .ok (.ireturn, 1) → va_P D vwCl [(wPd y a tx le po pt pf pl pa fo)].flatten H → va_D A [(wPd y a tx le po pt pf pl pa fo)].flatten → va_S A s.heap H locs → W p l e R s m args below meth c H locs 0 0 Q (F0 m pc ls [.int (jI v9)])) → W p l e R s m args below meth c s.heap [] 0 0 Q (F0 m 0 ls []) := by
    intro Q hE_
    have hS_ : va_S A s.heap s.heap [] := va_S.rf
    have hl_ : lv_has ls 2 [(0, .ref (a 0)), (1, .int (jI x1))] := hl_
    have hin_ : ∀ w ∈ u_ws RX1 TX1 8, w ∈ wsX1_foundLast := by decide +kernel
    unfold f_X1_foundLast at h_
    refine lv_aload_n hx_ hb_ dX1_foundLast_0 rfl (lv_at hl_ 0 rfl) ?_
    refine lv_iload_n hx_ hb_ dX1_foundLast_1 rfl (lv_at hl_ 1 rfl) ?_
    obtain ⟨v1, hv1, h_⟩ := jb_i h_
    refine jx_cvi (wr := []) (cw := [(wPd y a tx le po pt pf pl pa fo)]) (cw1 := [(wPd y a tx le po pt pf pl pa fo)]) (cs1 := [(wPd y a tx le po pt pf pl pa fo)]) (As := [.int (jI x1)]) (rest := []) ⟨hx_, hb_, hml_, hown_, hts_⟩ hM_ hP_ hD_ hS_ hA_ (List.Perm.refl _) (List.Perm.refl _) (c_X1_isFound l D y z a tx le po pt pf pl pa fo x1 fu v1 hv1) 1 gX1_foundLast_X1_isFound rfl ⟨rfl, rfl⟩ (by decide +kernel) ⟨by rw [hR_]; exact Nat.le_of_ble_eq_true rfl, by rw [hR_]; exact Nat.le_of_ble_eq_true rfl⟩ 0 1 rfl rfl rfl rfl rfl hl_.1 (Nat.le_of_ble_eq_true rfl) dX1_foundLast_2 ⟨Nat.zero_le _, Nat.zero_le _⟩ (fun H locs hP_ hD_ hS_ => ?_)
    refine jx_if_eq (tgt := 17) hx_ hb_ h_ dX1_foundLast_5 (by decide) (fun h_ => ?_) (fun h_ => ?_)
    · refine lv_iconst (v := jI 0) hx_ hb_ dX1_foundLast_17 (by decide +kernel) ?_
      exact hE_ _ _ _ _ _ h_ dX1_foundLast_18 hP_ hD_ hS_
    · refine lv_aload_n hx_ hb_ dX1_foundLast_8 rfl (lv_at hl_ 0 rfl) ?_
      refine va_get (D := D) (ci := 1) (v := .ref (a 4)) (C := RX1) (T := TX1) (N := 8) hx_ hb_ hts_ hin_ hown_ hM_.1 hP_ 0 rfl rfl 5 (by decide) (hts_ (.fieldLink RX1 22 "MusicHoles$Pad" "lasts" "[I") (by decide +kernel)) (fun _ h9_ => h9_) rfl dX1_foundLast_9 ?_
      refine lv_iload_n hx_ hb_ dX1_foundLast_12 rfl (lv_at hl_ 1 rfl) ?_
      refine jx_iald hx_ hb_ hM_ hP_ 4 0 rfl rfl rfl (Nat.le_of_ble_eq_true rfl) h_ dX1_foundLast_13 (fun h_ => ?_)
      refine lv_goto (tgt := 18) hx_ hb_ dX1_foundLast_14 (by decide) ?_
      exact hE_ _ _ _ _ _ h_ dX1_foundLast_18 hP_ hD_ hS_
  exact key_ _ (fun v9 H locs pc ls h9_ hdg_ hP_ hD_ hS_ => by cases h9_; exact jend_i hx_ hb_ hr_ hlocks_ hP_ hD_ hS_ hdg_)
def rm_X1_foundFirst : Room := { frames := 1, cells := 0, slots := 0, locals := 21 }
set_option maxRecDepth 100000 in
set_option maxHeartbeats 8000000 in
theorem c_X1_foundFirst (l : Launch) (D : va_G) (y : Nat → ClassId) (z : Nat → Nat) (a : Nat → Nat) (tx : Int → Int) (le : Int) (po : Int) (pt : Int → Int) (pf : Int → Int) (pl : Int → Int) (pa : Int → Int) (fo : Int) (x1 : Int) (fu : Nat) (rr : Int) (h_ : f_X1_foundFirst fu pf fo x1 = some rr) : jCI l D y z yX1_foundFirst wsX1_foundFirst rm_X1_foundFirst [.ref (a 0), .int (jI x1)] [(wPd y a tx le po pt pf pl pa fo)] [(wPd y a tx le po pt pf pl pa fo)] rr := by
  intro sz
  refine jmet (Qc := (fun A => va_Qi (fun v (_ : Unit) => v = jI rr) (jB D A [(wPd y a tx le po pt pf pl pa fo)]) A)) (cc := cX1_foundFirst) (maxL := 2) (ret := (some .int)) (own := RX1) (by decide) rfl (Nat.le_of_ble_eq_true rfl) rfl (fun p e s m R args below meth c A ls hR_ hargs_ hx_ hb_ hr_ hlocks_ hml_ hown_ hts_ hname_ hsz_ hP_ hD_ hA_ hM_ hl_ => ?_)
  have key_ : ∀ Q : State → Prop, (∀ (v9 : Int) (H : Heap) (locs : List Loc) (pc : Nat) (ls : Array Slot), some v9 = some rr → decode cX1_foundFirst pc = .ok (.ireturn, 1) → va_P D vwCl [(wPd y a tx le po pt pf pl pa fo)].flatten H → va_D A [(wPd y a tx le po pt pf pl pa fo)].flatten → va_S A s.heap H locs → W p l e R s m args below meth c H locs 0 0 Q (F0 m pc ls [.int (jI v9)])) → W p l e R s m args below meth c s.heap [] 0 0 Q (F0 m 0 ls []) := by
    intro Q hE_
    have hS_ : va_S A s.heap s.heap [] := va_S.rf
    have hl_ : lv_has ls 2 [(0, .ref (a 0)), (1, .int (jI x1))] := hl_
    have hin_ : ∀ w ∈ u_ws RX1 TX1 8, w ∈ wsX1_foundFirst := by decide +kernel
    unfold f_X1_foundFirst at h_
    refine lv_aload_n hx_ hb_ dX1_foundFirst_0 rfl (lv_at hl_ 0 rfl) ?_
    refine lv_iload_n hx_ hb_ dX1_foundFirst_1 rfl (lv_at hl_ 1 rfl) ?_
    obtain ⟨v1, hv1, h_⟩ := jb_i h_
    refine jx_cvi (wr := []) (cw := [(wPd y a tx le po pt pf pl pa fo)]) (cw1 := [(wPd y a tx le po pt pf pl pa fo)]) (cs1 := [(wPd y a tx le po pt pf pl pa fo)]) (As := [.int (jI x1)]) (rest := []) ⟨hx_, hb_, hml_, hown_, hts_⟩ hM_ hP_ hD_ hS_ hA_ (List.Perm.refl _) (List.Perm.refl _) (c_X1_isFound l D y z a tx le po pt pf pl pa fo x1 fu v1 hv1) 1 gX1_foundFirst_X1_isFound rfl ⟨rfl, rfl⟩ (by decide +kernel) ⟨by rw [hR_]; exact Nat.le_of_ble_eq_true rfl, by rw [hR_]; exact Nat.le_of_ble_eq_true rfl⟩ 0 1 rfl rfl rfl rfl rfl hl_.1 (Nat.le_of_ble_eq_true rfl) dX1_foundFirst_2 ⟨Nat.zero_le _, Nat.zero_le _⟩ (fun H locs hP_ hD_ hS_ => ?_)
    refine jx_if_eq (tgt := 17) hx_ hb_ h_ dX1_foundFirst_5 (by decide) (fun h_ => ?_) (fun h_ => ?_)
    · refine lv_iconst (v := jI 0) hx_ hb_ dX1_foundFirst_17 (by decide +kernel) ?_
      exact hE_ _ _ _ _ _ h_ dX1_foundFirst_18 hP_ hD_ hS_
    · refine lv_aload_n hx_ hb_ dX1_foundFirst_8 rfl (lv_at hl_ 0 rfl) ?_
      refine va_get (D := D) (ci := 1) (v := .ref (a 3)) (C := RX1) (T := TX1) (N := 8) hx_ hb_ hts_ hin_ hown_ hM_.1 hP_ 0 rfl rfl 4 (by decide) (hts_ (.fieldLink RX1 19 "MusicHoles$Pad" "firsts" "[I") (by decide +kernel)) (fun _ h9_ => h9_) rfl dX1_foundFirst_9 ?_
      refine lv_iload_n hx_ hb_ dX1_foundFirst_12 rfl (lv_at hl_ 1 rfl) ?_
      refine jx_iald hx_ hb_ hM_ hP_ 3 0 rfl rfl rfl (Nat.le_of_ble_eq_true rfl) h_ dX1_foundFirst_13 (fun h_ => ?_)
      refine lv_goto (tgt := 18) hx_ hb_ dX1_foundFirst_14 (by decide) ?_
      exact hE_ _ _ _ _ _ h_ dX1_foundFirst_18 hP_ hD_ hS_
  exact key_ _ (fun v9 H locs pc ls h9_ hdg_ hP_ hD_ hS_ => by cases h9_; exact jend_i hx_ hb_ hr_ hlocks_ hP_ hD_ hS_ hdg_)
def rm_X1_hasTurnedNote : Room := { frames := 2, cells := 0, slots := 0, locals := 42 }
set_option maxRecDepth 100000 in
set_option maxHeartbeats 8000000 in
theorem c_X1_hasTurnedNote (l : Launch) (D : va_G) (y : Nat → ClassId) (z : Nat → Nat) (a : Nat → Nat) (tx : Int → Int) (le : Int) (po : Int) (pt : Int → Int) (pf : Int → Int) (pl : Int → Int) (pa : Int → Int) (fo : Int)  (fu : Nat) (rr : Int) (h_ : f_X1_hasTurnedNote fu pf pl fo = some rr) : jCI l D y z yX1_hasTurnedNote wsX1_hasTurnedNote rm_X1_hasTurnedNote [.ref (a 0)] [(wPd y a tx le po pt pf pl pa fo)] [(wPd y a tx le po pt pf pl pa fo)] rr := by
  intro sz
  refine jmet (Qc := (fun A => va_Qi (fun v (_ : Unit) => v = jI rr) (jB D A [(wPd y a tx le po pt pf pl pa fo)]) A)) (cc := cX1_hasTurnedNote) (maxL := 2) (ret := (some .boolean)) (own := RX1) (by decide) rfl (Nat.le_of_ble_eq_true rfl) rfl (fun p e s m R args below meth c A ls hR_ hargs_ hx_ hb_ hr_ hlocks_ hml_ hown_ hts_ hname_ hsz_ hP_ hD_ hA_ hM_ hl_ => ?_)
  have key_ : ∀ Q : State → Prop, (∀ (v9 : Int) (H : Heap) (locs : List Loc) (pc : Nat) (ls : Array Slot), some v9 = some rr → (v9 = 0 ∨ v9 = 1) → decode cX1_hasTurnedNote pc = .ok (.ireturn, 1) → va_P D vwCl [(wPd y a tx le po pt pf pl pa fo)].flatten H → va_D A [(wPd y a tx le po pt pf pl pa fo)].flatten → va_S A s.heap H locs → W p l e R s m args below meth c H locs 0 0 Q (F0 m pc ls [.int (jI v9)])) → W p l e R s m args below meth c s.heap [] 0 0 Q (F0 m 0 ls []) := by
    intro Q hE_
    have hS_ : va_S A s.heap s.heap [] := va_S.rf
    have hl_ : lv_has ls 2 [(0, .ref (a 0))] := hl_
    have hin_ : ∀ w ∈ u_ws RX1 TX1 8, w ∈ wsX1_hasTurnedNote := by decide +kernel
    unfold f_X1_hasTurnedNote at h_
    refine lv_iconst (v := jI 0) hx_ hb_ dX1_hasTurnedNote_0 (by decide +kernel) ?_
    refine lv_istore_n (lv' := [(1, .int (jI 0)), (0, .ref (a 0))]) hx_ hb_ dX1_hasTurnedNote_1 rfl hl_ (by decide) rfl (fun ls hl_ => ?_)
    have hX31 : ∀  (H : Heap) (locs : List Loc) (ls : Array Slot), f_X1_hasTurnedNote_X31 fu = some rr → va_P D vwCl [(wPd y a tx le po pt pf pl pa fo)].flatten H → va_D A [(wPd y a tx le po pt pf pl pa fo)].flatten → va_S A s.heap H locs → lv_has ls 2 [] → W p l e R s m args below meth c H locs 0 0 Q (F0 m 31 ls []) := by
      intro  H locs ls h_ hP_ hD_ hS_ hl_
      unfold f_X1_hasTurnedNote_X31 at h_
      refine lv_iconst (v := jI 0) hx_ hb_ dX1_hasTurnedNote_31 (by decide +kernel) ?_
      obtain ⟨hz_, h_⟩ := jbo_i h_
      exact hE_ _ _ _ _ _ h_ hz_ dX1_hasTurnedNote_32 hP_ hD_ hS_
    have hL2 : ∀ n2 : Nat, ∀ (v1 : Int) (H : Heap) (locs : List Loc) (ls : Array Slot), f_X1_hasTurnedNote_L2 fu pf pl fo (f_X1_hasTurnedNote_X31 fu) n2 v1 = some rr → va_P D vwCl [(wPd y a tx le po pt pf pl pa fo)].flatten H → va_D A [(wPd y a tx le po pt pf pl pa fo)].flatten → va_S A s.heap H locs → lv_has ls 2 [(0, .ref (a 0)), (1, .int (jI v1))] → W p l e R s m args below meth c H locs 0 0 Q (F0 m 2 ls []) := by
      intro n2
      induction n2 with
      | zero => intro _ H locs ls h_; have h_ : (none : Option (Int)) = some rr := h_; cases h_
      | succ n2 ih2 =>
        intro v1 H locs ls h_ hP_ hD_ hS_ hl_
        replace h_ : f_X1_hasTurnedNote_L2_b fu pf pl fo (f_X1_hasTurnedNote_X31 fu) (f_X1_hasTurnedNote_L2 fu pf pl fo (f_X1_hasTurnedNote_X31 fu) n2) v1 = some rr := h_
        unfold f_X1_hasTurnedNote_L2_b at h_
        refine lv_iload_n hx_ hb_ dX1_hasTurnedNote_2 rfl (lv_at hl_ 1 rfl) ?_
        refine lv_aload_n hx_ hb_ dX1_hasTurnedNote_3 rfl (lv_at hl_ 0 rfl) ?_
        refine va_get (D := D) (ci := 1) (v := .int (jI fo)) (C := RX1) (T := TX1) (N := 8) hx_ hb_ hts_ hin_ hown_ hM_.1 hP_ 0 rfl rfl 7 (by decide) (hts_ (.fieldLink RX1 36 "MusicHoles$Pad" "found" "I") (by decide +kernel)) (fun _ h9_ => h9_) rfl dX1_hasTurnedNote_4 ?_
        refine jx_icmp_ge (tgt := 31) hx_ hb_ h_ dX1_hasTurnedNote_7 (by decide) (fun h_ => ?_) (fun h_ => ?_)
        · exact hX31  _ _ ls h_ hP_ hD_ hS_ (lv_sub hl_ [] rfl)
        · refine lv_aload_n hx_ hb_ dX1_hasTurnedNote_10 rfl (lv_at hl_ 0 rfl) ?_
          refine lv_iload_n hx_ hb_ dX1_hasTurnedNote_11 rfl (lv_at hl_ 1 rfl) ?_
          obtain ⟨v2, hv2, h_⟩ := jb_i h_
          refine jx_cvi (wr := []) (cw := [(wPd y a tx le po pt pf pl pa fo)]) (cw1 := [(wPd y a tx le po pt pf pl pa fo)]) (cs1 := [(wPd y a tx le po pt pf pl pa fo)]) (As := [.int (jI v1)]) (rest := []) ⟨hx_, hb_, hml_, hown_, hts_⟩ hM_ hP_ hD_ hS_ hA_ (List.Perm.refl _) (List.Perm.refl _) (c_X1_foundLast l D y z a tx le po pt pf pl pa fo v1 fu v2 hv2) 1 gX1_hasTurnedNote_X1_foundLast rfl ⟨rfl, rfl⟩ (by decide +kernel) ⟨by rw [hR_]; exact Nat.le_of_ble_eq_true rfl, by rw [hR_]; exact Nat.le_of_ble_eq_true rfl⟩ 0 1 rfl rfl rfl rfl rfl hl_.1 (Nat.le_of_ble_eq_true rfl) dX1_hasTurnedNote_12 ⟨Nat.zero_le _, Nat.zero_le _⟩ (fun H locs hP_ hD_ hS_ => ?_)
          refine lv_aload_n hx_ hb_ dX1_hasTurnedNote_15 rfl (lv_at hl_ 0 rfl) ?_
          refine lv_iload_n hx_ hb_ dX1_hasTurnedNote_16 rfl (lv_at hl_ 1 rfl) ?_
          obtain ⟨v3, hv3, h_⟩ := jb_i h_
          refine jx_cvi (wr := []) (cw := [(wPd y a tx le po pt pf pl pa fo)]) (cw1 := [(wPd y a tx le po pt pf pl pa fo)]) (cs1 := [(wPd y a tx le po pt pf pl pa fo)]) (As := [.int (jI v1)]) (rest := [.int (jI v2)]) ⟨hx_, hb_, hml_, hown_, hts_⟩ hM_ hP_ hD_ hS_ hA_ (List.Perm.refl _) (List.Perm.refl _) (c_X1_foundFirst l D y z a tx le po pt pf pl pa fo v1 fu v3 hv3) 1 gX1_hasTurnedNote_X1_foundFirst rfl ⟨rfl, rfl⟩ (by decide +kernel) ⟨by rw [hR_]; exact Nat.le_of_ble_eq_true rfl, by rw [hR_]; exact Nat.le_of_ble_eq_true rfl⟩ 0 1 rfl rfl rfl rfl rfl hl_.1 (Nat.le_of_ble_eq_true rfl) dX1_hasTurnedNote_17 ⟨Nat.zero_le _, Nat.zero_le _⟩ (fun H locs hP_ hD_ hS_ => ?_)
          refine jx_icmp_ge (tgt := 25) hx_ hb_ h_ dX1_hasTurnedNote_20 (by decide) (fun h_ => ?_) (fun h_ => ?_)
          · refine lv_iinc (v := jI (v1 + 1)) (lv' := [(1, .int (jI (v1 + 1))), (0, .ref (a 0))]) hx_ hb_ dX1_hasTurnedNote_25 hl_ (k := 1) rfl (jI_add _ _) (by decide) rfl (fun ls hl_ => ?_)
            refine lv_goto (tgt := 2) hx_ hb_ dX1_hasTurnedNote_28 (by decide) ?_
            exact ih2 _ _ _ ls h_ hP_ hD_ hS_ (lv_sub hl_ [1, 0] rfl)
          · refine lv_iconst (v := jI 1) hx_ hb_ dX1_hasTurnedNote_23 (by decide +kernel) ?_
            obtain ⟨hz_, h_⟩ := jbo_i h_
            exact hE_ _ _ _ _ _ h_ hz_ dX1_hasTurnedNote_24 hP_ hD_ hS_
    exact hL2 fu _ _ _ ls h_ hP_ hD_ hS_ (lv_sub hl_ [1, 0] rfl)
  exact key_ _ (fun v9 H locs pc ls h9_ hz_ hdg_ hP_ hD_ hS_ => by cases h9_; exact jend_z hx_ hb_ hr_ hlocks_ hz_ hP_ hD_ hS_ hdg_)
def rm_X1_found : Room := { frames := 0, cells := 0, slots := 0, locals := 0 }
set_option maxRecDepth 100000 in
set_option maxHeartbeats 8000000 in
theorem c_X1_found (l : Launch) (D : va_G) (y : Nat → ClassId) (z : Nat → Nat) (a : Nat → Nat) (tx : Int → Int) (le : Int) (po : Int) (pt : Int → Int) (pf : Int → Int) (pl : Int → Int) (pa : Int → Int) (fo : Int)  (fu : Nat) (rr : Int) (h_ : f_X1_found fu fo = some rr) : jCI l D y z yX1_found wsX1_found rm_X1_found [.ref (a 0)] [(wPd y a tx le po pt pf pl pa fo)] [(wPd y a tx le po pt pf pl pa fo)] rr := by
  intro sz
  refine jmet (Qc := (fun A => va_Qi (fun v (_ : Unit) => v = jI rr) (jB D A [(wPd y a tx le po pt pf pl pa fo)]) A)) (cc := cX1_found) (maxL := 1) (ret := (some .int)) (own := RX1) (by decide) rfl (Nat.le_of_ble_eq_true rfl) rfl (fun p e s m R args below meth c A ls hR_ hargs_ hx_ hb_ hr_ hlocks_ hml_ hown_ hts_ hname_ hsz_ hP_ hD_ hA_ hM_ hl_ => ?_)
  have key_ : ∀ Q : State → Prop, (∀ (v9 : Int) (H : Heap) (locs : List Loc) (pc : Nat) (ls : Array Slot), some v9 = some rr → decode cX1_found pc = .ok (.ireturn, 1) → va_P D vwCl [(wPd y a tx le po pt pf pl pa fo)].flatten H → va_D A [(wPd y a tx le po pt pf pl pa fo)].flatten → va_S A s.heap H locs → W p l e R s m args below meth c H locs 0 0 Q (F0 m pc ls [.int (jI v9)])) → W p l e R s m args below meth c s.heap [] 0 0 Q (F0 m 0 ls []) := by
    intro Q hE_
    have hS_ : va_S A s.heap s.heap [] := va_S.rf
    have hl_ : lv_has ls 1 [(0, .ref (a 0))] := hl_
    have hin_ : ∀ w ∈ u_ws RX1 TX1 8, w ∈ wsX1_found := by decide +kernel
    unfold f_X1_found at h_
    refine lv_aload_n hx_ hb_ dX1_found_0 rfl (lv_at hl_ 0 rfl) ?_
    refine va_get (D := D) (ci := 1) (v := .int (jI fo)) (C := RX1) (T := TX1) (N := 8) hx_ hb_ hts_ hin_ hown_ hM_.1 hP_ 0 rfl rfl 7 (by decide) (hts_ (.fieldLink RX1 36 "MusicHoles$Pad" "found" "I") (by decide +kernel)) (fun _ h9_ => h9_) rfl dX1_found_1 ?_
    exact hE_ _ _ _ _ _ h_ dX1_found_4 hP_ hD_ hS_
  exact key_ _ (fun v9 H locs pc ls h9_ hdg_ hP_ hD_ hS_ => by cases h9_; exact jend_i hx_ hb_ hr_ hlocks_ hP_ hD_ hS_ hdg_)
def rm_X1_foundTrack : Room := { frames := 1, cells := 0, slots := 0, locals := 21 }
set_option maxRecDepth 100000 in
set_option maxHeartbeats 8000000 in
theorem c_X1_foundTrack (l : Launch) (D : va_G) (y : Nat → ClassId) (z : Nat → Nat) (a : Nat → Nat) (tx : Int → Int) (le : Int) (po : Int) (pt : Int → Int) (pf : Int → Int) (pl : Int → Int) (pa : Int → Int) (fo : Int) (x1 : Int) (fu : Nat) (rr : Int) (h_ : f_X1_foundTrack fu pt fo x1 = some rr) : jCI l D y z yX1_foundTrack wsX1_foundTrack rm_X1_foundTrack [.ref (a 0), .int (jI x1)] [(wPd y a tx le po pt pf pl pa fo)] [(wPd y a tx le po pt pf pl pa fo)] rr := by
  intro sz
  refine jmet (Qc := (fun A => va_Qi (fun v (_ : Unit) => v = jI rr) (jB D A [(wPd y a tx le po pt pf pl pa fo)]) A)) (cc := cX1_foundTrack) (maxL := 2) (ret := (some .int)) (own := RX1) (by decide) rfl (Nat.le_of_ble_eq_true rfl) rfl (fun p e s m R args below meth c A ls hR_ hargs_ hx_ hb_ hr_ hlocks_ hml_ hown_ hts_ hname_ hsz_ hP_ hD_ hA_ hM_ hl_ => ?_)
  have key_ : ∀ Q : State → Prop, (∀ (v9 : Int) (H : Heap) (locs : List Loc) (pc : Nat) (ls : Array Slot), some v9 = some rr → decode cX1_foundTrack pc = .ok (.ireturn, 1) → va_P D vwCl [(wPd y a tx le po pt pf pl pa fo)].flatten H → va_D A [(wPd y a tx le po pt pf pl pa fo)].flatten → va_S A s.heap H locs → W p l e R s m args below meth c H locs 0 0 Q (F0 m pc ls [.int (jI v9)])) → W p l e R s m args below meth c s.heap [] 0 0 Q (F0 m 0 ls []) := by
    intro Q hE_
    have hS_ : va_S A s.heap s.heap [] := va_S.rf
    have hl_ : lv_has ls 2 [(0, .ref (a 0)), (1, .int (jI x1))] := hl_
    have hin_ : ∀ w ∈ u_ws RX1 TX1 8, w ∈ wsX1_foundTrack := by decide +kernel
    unfold f_X1_foundTrack at h_
    refine lv_aload_n hx_ hb_ dX1_foundTrack_0 rfl (lv_at hl_ 0 rfl) ?_
    refine lv_iload_n hx_ hb_ dX1_foundTrack_1 rfl (lv_at hl_ 1 rfl) ?_
    obtain ⟨v1, hv1, h_⟩ := jb_i h_
    refine jx_cvi (wr := []) (cw := [(wPd y a tx le po pt pf pl pa fo)]) (cw1 := [(wPd y a tx le po pt pf pl pa fo)]) (cs1 := [(wPd y a tx le po pt pf pl pa fo)]) (As := [.int (jI x1)]) (rest := []) ⟨hx_, hb_, hml_, hown_, hts_⟩ hM_ hP_ hD_ hS_ hA_ (List.Perm.refl _) (List.Perm.refl _) (c_X1_isFound l D y z a tx le po pt pf pl pa fo x1 fu v1 hv1) 1 gX1_foundTrack_X1_isFound rfl ⟨rfl, rfl⟩ (by decide +kernel) ⟨by rw [hR_]; exact Nat.le_of_ble_eq_true rfl, by rw [hR_]; exact Nat.le_of_ble_eq_true rfl⟩ 0 1 rfl rfl rfl rfl rfl hl_.1 (Nat.le_of_ble_eq_true rfl) dX1_foundTrack_2 ⟨Nat.zero_le _, Nat.zero_le _⟩ (fun H locs hP_ hD_ hS_ => ?_)
    refine jx_if_eq (tgt := 17) hx_ hb_ h_ dX1_foundTrack_5 (by decide) (fun h_ => ?_) (fun h_ => ?_)
    · refine lv_iconst (v := jI 0) hx_ hb_ dX1_foundTrack_17 (by decide +kernel) ?_
      exact hE_ _ _ _ _ _ h_ dX1_foundTrack_18 hP_ hD_ hS_
    · refine lv_aload_n hx_ hb_ dX1_foundTrack_8 rfl (lv_at hl_ 0 rfl) ?_
      refine va_get (D := D) (ci := 1) (v := .ref (a 2)) (C := RX1) (T := TX1) (N := 8) hx_ hb_ hts_ hin_ hown_ hM_.1 hP_ 0 rfl rfl 3 (by decide) (hts_ (.fieldLink RX1 15 "MusicHoles$Pad" "tracks" "[I") (by decide +kernel)) (fun _ h9_ => h9_) rfl dX1_foundTrack_9 ?_
      refine lv_iload_n hx_ hb_ dX1_foundTrack_12 rfl (lv_at hl_ 1 rfl) ?_
      refine jx_iald hx_ hb_ hM_ hP_ 2 0 rfl rfl rfl (Nat.le_of_ble_eq_true rfl) h_ dX1_foundTrack_13 (fun h_ => ?_)
      refine lv_goto (tgt := 18) hx_ hb_ dX1_foundTrack_14 (by decide) ?_
      exact hE_ _ _ _ _ _ h_ dX1_foundTrack_18 hP_ hD_ hS_
  exact key_ _ (fun v9 H locs pc ls h9_ hdg_ hP_ hD_ hS_ => by cases h9_; exact jend_i hx_ hb_ hr_ hlocks_ hP_ hD_ hS_ hdg_)
def rm_X1_foundAccent : Room := { frames := 1, cells := 0, slots := 0, locals := 21 }
set_option maxRecDepth 100000 in
set_option maxHeartbeats 8000000 in
theorem c_X1_foundAccent (l : Launch) (D : va_G) (y : Nat → ClassId) (z : Nat → Nat) (a : Nat → Nat) (tx : Int → Int) (le : Int) (po : Int) (pt : Int → Int) (pf : Int → Int) (pl : Int → Int) (pa : Int → Int) (fo : Int) (x1 : Int) (fu : Nat) (rr : Int) (h_ : f_X1_foundAccent fu pa fo x1 = some rr) : jCI l D y z yX1_foundAccent wsX1_foundAccent rm_X1_foundAccent [.ref (a 0), .int (jI x1)] [(wPd y a tx le po pt pf pl pa fo)] [(wPd y a tx le po pt pf pl pa fo)] rr := by
  intro sz
  refine jmet (Qc := (fun A => va_Qi (fun v (_ : Unit) => v = jI rr) (jB D A [(wPd y a tx le po pt pf pl pa fo)]) A)) (cc := cX1_foundAccent) (maxL := 2) (ret := (some .boolean)) (own := RX1) (by decide) rfl (Nat.le_of_ble_eq_true rfl) rfl (fun p e s m R args below meth c A ls hR_ hargs_ hx_ hb_ hr_ hlocks_ hml_ hown_ hts_ hname_ hsz_ hP_ hD_ hA_ hM_ hl_ => ?_)
  have key_ : ∀ Q : State → Prop, (∀ (v9 : Int) (H : Heap) (locs : List Loc) (pc : Nat) (ls : Array Slot), some v9 = some rr → (v9 = 0 ∨ v9 = 1) → decode cX1_foundAccent pc = .ok (.ireturn, 1) → va_P D vwCl [(wPd y a tx le po pt pf pl pa fo)].flatten H → va_D A [(wPd y a tx le po pt pf pl pa fo)].flatten → va_S A s.heap H locs → W p l e R s m args below meth c H locs 0 0 Q (F0 m pc ls [.int (jI v9)])) → W p l e R s m args below meth c s.heap [] 0 0 Q (F0 m 0 ls []) := by
    intro Q hE_
    have hS_ : va_S A s.heap s.heap [] := va_S.rf
    have hl_ : lv_has ls 2 [(0, .ref (a 0)), (1, .int (jI x1))] := hl_
    have hin_ : ∀ w ∈ u_ws RX1 TX1 8, w ∈ wsX1_foundAccent := by decide +kernel
    unfold f_X1_foundAccent at h_
    refine lv_aload_n hx_ hb_ dX1_foundAccent_0 rfl (lv_at hl_ 0 rfl) ?_
    refine lv_iload_n hx_ hb_ dX1_foundAccent_1 rfl (lv_at hl_ 1 rfl) ?_
    obtain ⟨v1, hv1, h_⟩ := jb_i h_
    refine jx_cvi (wr := []) (cw := [(wPd y a tx le po pt pf pl pa fo)]) (cw1 := [(wPd y a tx le po pt pf pl pa fo)]) (cs1 := [(wPd y a tx le po pt pf pl pa fo)]) (As := [.int (jI x1)]) (rest := []) ⟨hx_, hb_, hml_, hown_, hts_⟩ hM_ hP_ hD_ hS_ hA_ (List.Perm.refl _) (List.Perm.refl _) (c_X1_isFound l D y z a tx le po pt pf pl pa fo x1 fu v1 hv1) 1 gX1_foundAccent_X1_isFound rfl ⟨rfl, rfl⟩ (by decide +kernel) ⟨by rw [hR_]; exact Nat.le_of_ble_eq_true rfl, by rw [hR_]; exact Nat.le_of_ble_eq_true rfl⟩ 0 1 rfl rfl rfl rfl rfl hl_.1 (Nat.le_of_ble_eq_true rfl) dX1_foundAccent_2 ⟨Nat.zero_le _, Nat.zero_le _⟩ (fun H locs hP_ hD_ hS_ => ?_)
    refine jx_if_eq (tgt := 21) hx_ hb_ h_ dX1_foundAccent_5 (by decide) (fun h_ => ?_) (fun h_ => ?_)
    · refine lv_iconst (v := jI 0) hx_ hb_ dX1_foundAccent_21 (by decide +kernel) ?_
      obtain ⟨hz_, h_⟩ := jbo_i h_
      exact hE_ _ _ _ _ _ h_ hz_ dX1_foundAccent_22 hP_ hD_ hS_
    · refine lv_aload_n hx_ hb_ dX1_foundAccent_8 rfl (lv_at hl_ 0 rfl) ?_
      refine va_get (D := D) (ci := 1) (v := .ref (a 5)) (C := RX1) (T := TX1) (N := 8) hx_ hb_ hts_ hin_ hown_ hM_.1 hP_ 0 rfl rfl 6 (by decide) (hts_ (.fieldLink RX1 25 "MusicHoles$Pad" "accents" "[Z") (by decide +kernel)) (fun _ h9_ => h9_) rfl dX1_foundAccent_9 ?_
      refine lv_iload_n hx_ hb_ dX1_foundAccent_12 rfl (lv_at hl_ 1 rfl) ?_
      refine jx_zald hx_ hb_ hM_ hP_ 5 1 rfl rfl rfl (Nat.le_of_ble_eq_true rfl) h_ dX1_foundAccent_13 (fun h_ => ?_)
      refine jx_if_eq (tgt := 21) hx_ hb_ h_ dX1_foundAccent_14 (by decide) (fun h_ => ?_) (fun h_ => ?_)
      · refine lv_iconst (v := jI 0) hx_ hb_ dX1_foundAccent_21 (by decide +kernel) ?_
        obtain ⟨hz_, h_⟩ := jbo_i h_
        exact hE_ _ _ _ _ _ h_ hz_ dX1_foundAccent_22 hP_ hD_ hS_
      · refine lv_iconst (v := jI 1) hx_ hb_ dX1_foundAccent_17 (by decide +kernel) ?_
        refine lv_goto (tgt := 22) hx_ hb_ dX1_foundAccent_18 (by decide) ?_
        obtain ⟨hz_, h_⟩ := jbo_i h_
        exact hE_ _ _ _ _ _ h_ hz_ dX1_foundAccent_22 hP_ hD_ hS_
  exact key_ _ (fun v9 H locs pc ls h9_ hz_ hdg_ hP_ hD_ hS_ => by cases h9_; exact jend_z hx_ hb_ hr_ hlocks_ hz_ hP_ hD_ hS_ hdg_)
