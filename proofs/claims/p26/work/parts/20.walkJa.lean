def rm_X4_isIn : Room := { frames := 0, cells := 0, slots := 0, locals := 0 }
set_option maxRecDepth 100000 in
set_option maxHeartbeats 8000000 in
theorem c_X4_isIn (l : Launch) (D : va_G) (y : Nat → ClassId) (z : Nat → Nat)   (x0 : Int) (x1 : Int) (x2 : Int) (fu : Nat) (rr : Int) (h_ : f_X4_isIn fu x0 x1 x2 = some rr) : jCI l D y z yX4_isIn wsX4_isIn rm_X4_isIn [.int (jI x0), .int (jI x1), .int (jI x2)] [] [] rr := by
  intro sz
  refine jmet (Qc := (fun A => va_Qi (fun v (_ : Unit) => v = jI rr) (jB D A []) A)) (cc := cX4_isIn) (maxL := 3) (ret := (some .boolean)) (own := RX4) (by decide) rfl (Nat.le_of_ble_eq_true rfl) rfl (fun p e s m R args below meth c A ls hR_ hargs_ hx_ hb_ hr_ hlocks_ hml_ hown_ hts_ hname_ hsz_ hP_ hD_ hA_ hM_ hl_ => ?_)
  have key_ : ∀ Q : State → Prop, (∀ (v9 : Int) (H : Heap) (locs : List Loc) (pc : Nat) (ls : Array Slot), some v9 = some rr → (v9 = 0 ∨ v9 = 1) → decode cX4_isIn pc = .ok (.ireturn, 1) → va_P D vwCl [].flatten H → va_D A [].flatten → va_S A s.heap H locs → W p l e R s m args below meth c H locs 0 0 Q (F0 m pc ls [.int (jI v9)])) → W p l e R s m args below meth c s.heap [] 0 0 Q (F0 m 0 ls []) := by
    intro Q hE_
    have hS_ : va_S A s.heap s.heap [] := va_S.rf
    have hl_ : lv_has ls 3 [(0, .int (jI x0)), (1, .int (jI x1)), (2, .int (jI x2))] := hl_
    unfold f_X4_isIn at h_
    refine lv_iload_n hx_ hb_ dX4_isIn_0 rfl (lv_at hl_ 0 rfl) ?_
    refine lv_iload_n hx_ hb_ dX4_isIn_1 rfl (lv_at hl_ 1 rfl) ?_
    refine jx_icmp_lt (tgt := 14) hx_ hb_ h_ dX4_isIn_2 (by decide) (fun h_ => ?_) (fun h_ => ?_)
    · refine lv_iconst (v := jI 0) hx_ hb_ dX4_isIn_14 (by decide +kernel) ?_
      obtain ⟨hz_, h_⟩ := jbo_i h_
      exact hE_ _ _ _ _ _ h_ hz_ dX4_isIn_15 hP_ hD_ hS_
    · refine lv_iload_n hx_ hb_ dX4_isIn_5 rfl (lv_at hl_ 0 rfl) ?_
      refine lv_iload_n hx_ hb_ dX4_isIn_6 rfl (lv_at hl_ 2 rfl) ?_
      refine jx_icmp_gt (tgt := 14) hx_ hb_ h_ dX4_isIn_7 (by decide) (fun h_ => ?_) (fun h_ => ?_)
      · refine lv_iconst (v := jI 0) hx_ hb_ dX4_isIn_14 (by decide +kernel) ?_
        obtain ⟨hz_, h_⟩ := jbo_i h_
        exact hE_ _ _ _ _ _ h_ hz_ dX4_isIn_15 hP_ hD_ hS_
      · refine lv_iconst (v := jI 1) hx_ hb_ dX4_isIn_10 (by decide +kernel) ?_
        refine lv_goto (tgt := 15) hx_ hb_ dX4_isIn_11 (by decide) ?_
        obtain ⟨hz_, h_⟩ := jbo_i h_
        exact hE_ _ _ _ _ _ h_ hz_ dX4_isIn_15 hP_ hD_ hS_
  exact key_ _ (fun v9 H locs pc ls h9_ hz_ hdg_ hP_ hD_ hS_ => by cases h9_; exact jend_z hx_ hb_ hr_ hlocks_ hz_ hP_ hD_ hS_ hdg_)
def rm_J9_floorMod_7cf53 : Room := { frames := 0, cells := 0, slots := 0, locals := 0 }
set_option maxRecDepth 100000 in
set_option maxHeartbeats 8000000 in
theorem c_J9_floorMod_7cf53 (l : Launch) (D : va_G) (y : Nat → ClassId) (z : Nat → Nat)   (x0 : Int) (x1 : Int) (fu : Nat) (rr : Int) (h_ : f_J9_floorMod_7cf53 fu x0 x1 = some rr) : jCI l D y z yJ9_floorMod_7cf53 wsJ9_floorMod_7cf53 rm_J9_floorMod_7cf53 [.int (jI x0), .int (jI x1)] [] [] rr := by
  intro sz
  refine jmetF (Qc := (fun A => va_Qi (fun v (_ : Unit) => v = jI rr) (jB D A []) A)) (cc := cJ9_floorMod_7cf53) (maxL := 3) (ret := (some .int)) (own := RJ9) (by decide +kernel) rfl (Nat.le_of_ble_eq_true rfl) rfl (fun p e s m R args below meth c A ls hR_ hargs_ hx_ hb_ hr_ hlocks_ hml_ hown_ hts_ hname_ hsz_ hP_ hD_ hA_ hM_ hl_ => ?_)
  have key_ : ∀ Q : State → Prop, (∀ (v9 : Int) (H : Heap) (locs : List Loc) (pc : Nat) (ls : Array Slot), some v9 = some rr → decode cJ9_floorMod_7cf53 pc = .ok (.ireturn, 1) → va_P D vwCl [].flatten H → va_D A [].flatten → va_S A s.heap H locs → W p l e R s m args below meth c H locs 0 0 Q (F0 m pc ls [.int (jI v9)])) → W p l e R s m args below meth c s.heap [] 0 0 Q (F0 m 0 ls []) := by
    intro Q hE_
    have hS_ : va_S A s.heap s.heap [] := va_S.rf
    have hl_ : lv_has ls 3 [(0, .int (jI x0)), (1, .int (jI x1))] := hl_
    unfold f_J9_floorMod_7cf53 at h_
    refine lv_iload_n hx_ hb_ dJ9_floorMod_7cf53_0 rfl (lv_at hl_ 0 rfl) ?_
    refine lv_iload_n hx_ hb_ dJ9_floorMod_7cf53_1 rfl (lv_at hl_ 1 rfl) ?_
    refine jx_irem hx_ hb_ h_ dJ9_floorMod_7cf53_2 (fun h_ => ?_)
    refine lv_istore_n (lv' := [(2, .int (jI (x0 % x1))), (0, .int (jI x0)), (1, .int (jI x1))]) hx_ hb_ dJ9_floorMod_7cf53_3 rfl hl_ (by decide) rfl (fun ls hl_ => ?_)
    refine lv_iload_n hx_ hb_ dJ9_floorMod_7cf53_4 rfl (lv_at hl_ 1 rfl) ?_
    refine lv_iload_n hx_ hb_ dJ9_floorMod_7cf53_5 rfl (lv_at hl_ 2 rfl) ?_
    refine jx_ixor hx_ hb_ dJ9_floorMod_7cf53_6 ?_
    refine jx_if_ge (tgt := 18) hx_ hb_ h_ dJ9_floorMod_7cf53_7 (by decide) (fun h_ => ?_) (fun h_ => ?_)
    · refine lv_iload_n hx_ hb_ dJ9_floorMod_7cf53_18 rfl (lv_at hl_ 0 rfl) ?_
      exact hE_ _ _ _ _ _ h_ dJ9_floorMod_7cf53_19 hP_ hD_ hS_
    · refine lv_iload_n hx_ hb_ dJ9_floorMod_7cf53_10 rfl (lv_at hl_ 0 rfl) ?_
      refine jx_if_eq (tgt := 18) hx_ hb_ h_ dJ9_floorMod_7cf53_11 (by decide) (fun h_ => ?_) (fun h_ => ?_)
      · refine lv_iload_n hx_ hb_ dJ9_floorMod_7cf53_18 rfl (lv_at hl_ 0 rfl) ?_
        exact hE_ _ _ _ _ _ h_ dJ9_floorMod_7cf53_19 hP_ hD_ hS_
      · refine lv_iload_n hx_ hb_ dJ9_floorMod_7cf53_14 rfl (lv_at hl_ 0 rfl) ?_
        refine lv_iload_n hx_ hb_ dJ9_floorMod_7cf53_15 rfl (lv_at hl_ 2 rfl) ?_
        refine jx_iadd hx_ hb_ dJ9_floorMod_7cf53_16 ?_
        exact hE_ _ _ _ _ _ h_ dJ9_floorMod_7cf53_17 hP_ hD_ hS_
  exact key_ _ (fun v9 H locs pc ls h9_ hdg_ hP_ hD_ hS_ => by cases h9_; exact jend_i hx_ hb_ hr_ hlocks_ hP_ hD_ hS_ hdg_)
def rm_X4_isTrack : Room := { frames := 1, cells := 0, slots := 0, locals := 22 }
set_option maxRecDepth 100000 in
set_option maxHeartbeats 8000000 in
theorem c_X4_isTrack (l : Launch) (D : va_G) (y : Nat → ClassId) (z : Nat → Nat)   (x0 : Int) (fu : Nat) (rr : Int) (h_ : f_X4_isTrack fu x0 = some rr) : jCI l D y z yX4_isTrack wsX4_isTrack rm_X4_isTrack [.int (jI x0)] [] [] rr := by
  intro sz
  refine jmet (Qc := (fun A => va_Qi (fun v (_ : Unit) => v = jI rr) (jB D A []) A)) (cc := cX4_isTrack) (maxL := 1) (ret := (some .boolean)) (own := RX4) (by decide) rfl (Nat.le_of_ble_eq_true rfl) rfl (fun p e s m R args below meth c A ls hR_ hargs_ hx_ hb_ hr_ hlocks_ hml_ hown_ hts_ hname_ hsz_ hP_ hD_ hA_ hM_ hl_ => ?_)
  have key_ : ∀ Q : State → Prop, (∀ (v9 : Int) (H : Heap) (locs : List Loc) (pc : Nat) (ls : Array Slot), some v9 = some rr → (v9 = 0 ∨ v9 = 1) → decode cX4_isTrack pc = .ok (.ireturn, 1) → va_P D vwCl [].flatten H → va_D A [].flatten → va_S A s.heap H locs → W p l e R s m args below meth c H locs 0 0 Q (F0 m pc ls [.int (jI v9)])) → W p l e R s m args below meth c s.heap [] 0 0 Q (F0 m 0 ls []) := by
    intro Q hE_
    have hS_ : va_S A s.heap s.heap [] := va_S.rf
    have hl_ : lv_has ls 1 [(0, .int (jI x0))] := hl_
    unfold f_X4_isTrack at h_
    refine lv_iload_n hx_ hb_ dX4_isTrack_0 rfl (lv_at hl_ 0 rfl) ?_
    refine lv_iconst (v := jI 0) hx_ hb_ dX4_isTrack_1 (by decide +kernel) ?_
    refine lv_bipush (v := jI 11) hx_ hb_ dX4_isTrack_2 (by decide +kernel) ?_
    obtain ⟨v1, hv1, h_⟩ := jb_i h_
    refine jx_csi (b := 0) (C := "") (wr := []) (cw := []) (cw1 := []) (cs1 := []) (As := [.int (jI x0), .int (jI 0), .int (jI 11)]) (rest := []) ⟨hx_, hb_, hml_, hown_, hts_⟩ hM_ hP_ hD_ hS_ hA_ (List.Perm.refl _) (List.Perm.refl _) (c_X4_isIn l D y z x0 0 11 fu v1 hv1) 3 (va_cwS 3 hts_ gX4_isTrack_X4_isIn rfl rfl rfl (by decide +kernel) ⟨by rw [hR_]; exact Nat.le_of_ble_eq_true rfl, by rw [hR_]; exact Nat.le_of_ble_eq_true rfl⟩) rfl ⟨rfl, rfl⟩ ⟨by rw [hR_]; exact Nat.le_of_ble_eq_true rfl, by rw [hR_]; exact Nat.le_of_ble_eq_true rfl⟩ rfl rfl hl_.1 (Nat.le_of_ble_eq_true rfl) dX4_isTrack_4 ⟨Nat.zero_le _, Nat.zero_le _⟩ (fun H locs hP_ hD_ hS_ => ?_)
    obtain ⟨hz_, h_⟩ := jbo_i h_
    exact hE_ _ _ _ _ _ h_ hz_ dX4_isTrack_7 hP_ hD_ hS_
  exact key_ _ (fun v9 H locs pc ls h9_ hz_ hdg_ hP_ hD_ hS_ => by cases h9_; exact jend_z hx_ hb_ hr_ hlocks_ hz_ hP_ hD_ hS_ hdg_)
def rm_X4_isStep : Room := { frames := 1, cells := 0, slots := 0, locals := 22 }
set_option maxRecDepth 100000 in
set_option maxHeartbeats 8000000 in
theorem c_X4_isStep (l : Launch) (D : va_G) (y : Nat → ClassId) (z : Nat → Nat)   (x0 : Int) (fu : Nat) (rr : Int) (h_ : f_X4_isStep fu x0 = some rr) : jCI l D y z yX4_isStep wsX4_isStep rm_X4_isStep [.int (jI x0)] [] [] rr := by
  intro sz
  refine jmet (Qc := (fun A => va_Qi (fun v (_ : Unit) => v = jI rr) (jB D A []) A)) (cc := cX4_isStep) (maxL := 1) (ret := (some .boolean)) (own := RX4) (by decide) rfl (Nat.le_of_ble_eq_true rfl) rfl (fun p e s m R args below meth c A ls hR_ hargs_ hx_ hb_ hr_ hlocks_ hml_ hown_ hts_ hname_ hsz_ hP_ hD_ hA_ hM_ hl_ => ?_)
  have key_ : ∀ Q : State → Prop, (∀ (v9 : Int) (H : Heap) (locs : List Loc) (pc : Nat) (ls : Array Slot), some v9 = some rr → (v9 = 0 ∨ v9 = 1) → decode cX4_isStep pc = .ok (.ireturn, 1) → va_P D vwCl [].flatten H → va_D A [].flatten → va_S A s.heap H locs → W p l e R s m args below meth c H locs 0 0 Q (F0 m pc ls [.int (jI v9)])) → W p l e R s m args below meth c s.heap [] 0 0 Q (F0 m 0 ls []) := by
    intro Q hE_
    have hS_ : va_S A s.heap s.heap [] := va_S.rf
    have hl_ : lv_has ls 1 [(0, .int (jI x0))] := hl_
    unfold f_X4_isStep at h_
    refine lv_iload_n hx_ hb_ dX4_isStep_0 rfl (lv_at hl_ 0 rfl) ?_
    refine lv_iconst (v := jI 0) hx_ hb_ dX4_isStep_1 (by decide +kernel) ?_
    refine lv_bipush (v := jI 99) hx_ hb_ dX4_isStep_2 (by decide +kernel) ?_
    obtain ⟨v1, hv1, h_⟩ := jb_i h_
    refine jx_csi (b := 0) (C := "") (wr := []) (cw := []) (cw1 := []) (cs1 := []) (As := [.int (jI x0), .int (jI 0), .int (jI 99)]) (rest := []) ⟨hx_, hb_, hml_, hown_, hts_⟩ hM_ hP_ hD_ hS_ hA_ (List.Perm.refl _) (List.Perm.refl _) (c_X4_isIn l D y z x0 0 99 fu v1 hv1) 3 (va_cwS 3 hts_ gX4_isStep_X4_isIn rfl rfl rfl (by decide +kernel) ⟨by rw [hR_]; exact Nat.le_of_ble_eq_true rfl, by rw [hR_]; exact Nat.le_of_ble_eq_true rfl⟩) rfl ⟨rfl, rfl⟩ ⟨by rw [hR_]; exact Nat.le_of_ble_eq_true rfl, by rw [hR_]; exact Nat.le_of_ble_eq_true rfl⟩ rfl rfl hl_.1 (Nat.le_of_ble_eq_true rfl) dX4_isStep_4 ⟨Nat.zero_le _, Nat.zero_le _⟩ (fun H locs hP_ hD_ hS_ => ?_)
    obtain ⟨hz_, h_⟩ := jbo_i h_
    exact hE_ _ _ _ _ _ h_ hz_ dX4_isStep_7 hP_ hD_ hS_
  exact key_ _ (fun v9 H locs pc ls h9_ hz_ hdg_ hP_ hD_ hS_ => by cases h9_; exact jend_z hx_ hb_ hr_ hlocks_ hz_ hP_ hD_ hS_ hdg_)
def rm_X4_asNumber : Room := { frames := 0, cells := 0, slots := 0, locals := 0 }
set_option maxRecDepth 100000 in
set_option maxHeartbeats 8000000 in
theorem c_X4_asNumber (l : Launch) (D : va_G) (y : Nat → ClassId) (z : Nat → Nat)   (x0 : Int) (fu : Nat) (rr : Int) (h_ : f_X4_asNumber fu x0 = some rr) : jCI l D y z yX4_asNumber wsX4_asNumber rm_X4_asNumber [.int (jI x0)] [] [] rr := by
  intro sz
  refine jmet (Qc := (fun A => va_Qi (fun v (_ : Unit) => v = jI rr) (jB D A []) A)) (cc := cX4_asNumber) (maxL := 1) (ret := (some .int)) (own := RX4) (by decide) rfl (Nat.le_of_ble_eq_true rfl) rfl (fun p e s m R args below meth c A ls hR_ hargs_ hx_ hb_ hr_ hlocks_ hml_ hown_ hts_ hname_ hsz_ hP_ hD_ hA_ hM_ hl_ => ?_)
  have key_ : ∀ Q : State → Prop, (∀ (v9 : Int) (H : Heap) (locs : List Loc) (pc : Nat) (ls : Array Slot), some v9 = some rr → decode cX4_asNumber pc = .ok (.ireturn, 1) → va_P D vwCl [].flatten H → va_D A [].flatten → va_S A s.heap H locs → W p l e R s m args below meth c H locs 0 0 Q (F0 m pc ls [.int (jI v9)])) → W p l e R s m args below meth c s.heap [] 0 0 Q (F0 m 0 ls []) := by
    intro Q hE_
    have hS_ : va_S A s.heap s.heap [] := va_S.rf
    have hl_ : lv_has ls 1 [(0, .int (jI x0))] := hl_
    unfold f_X4_asNumber at h_
    refine lv_iload_n hx_ hb_ dX4_asNumber_0 rfl (lv_at hl_ 0 rfl) ?_
    refine jx_if_eq (tgt := 8) hx_ hb_ h_ dX4_asNumber_1 (by decide) (fun h_ => ?_) (fun h_ => ?_)
    · refine lv_iconst (v := jI 0) hx_ hb_ dX4_asNumber_8 (by decide +kernel) ?_
      exact hE_ _ _ _ _ _ h_ dX4_asNumber_9 hP_ hD_ hS_
    · refine lv_iconst (v := jI 1) hx_ hb_ dX4_asNumber_4 (by decide +kernel) ?_
      refine lv_goto (tgt := 9) hx_ hb_ dX4_asNumber_5 (by decide) ?_
      exact hE_ _ _ _ _ _ h_ dX4_asNumber_9 hP_ hD_ hS_
  exact key_ _ (fun v9 H locs pc ls h9_ hdg_ hP_ hD_ hS_ => by cases h9_; exact jend_i hx_ hb_ hr_ hlocks_ hP_ hD_ hS_ hdg_)
def rm_X4_isPassage : Room := { frames := 2, cells := 0, slots := 0, locals := 42 }
set_option maxRecDepth 100000 in
set_option maxHeartbeats 8000000 in
theorem c_X4_isPassage (l : Launch) (D : va_G) (y : Nat → ClassId) (z : Nat → Nat)   (x0 : Int) (x1 : Int) (fu : Nat) (rr : Int) (h_ : f_X4_isPassage fu x0 x1 = some rr) : jCI l D y z yX4_isPassage wsX4_isPassage rm_X4_isPassage [.int (jI x0), .int (jI x1)] [] [] rr := by
  intro sz
  refine jmet (Qc := (fun A => va_Qi (fun v (_ : Unit) => v = jI rr) (jB D A []) A)) (cc := cX4_isPassage) (maxL := 2) (ret := (some .boolean)) (own := RX4) (by decide) rfl (Nat.le_of_ble_eq_true rfl) rfl (fun p e s m R args below meth c A ls hR_ hargs_ hx_ hb_ hr_ hlocks_ hml_ hown_ hts_ hname_ hsz_ hP_ hD_ hA_ hM_ hl_ => ?_)
  have key_ : ∀ Q : State → Prop, (∀ (v9 : Int) (H : Heap) (locs : List Loc) (pc : Nat) (ls : Array Slot), some v9 = some rr → (v9 = 0 ∨ v9 = 1) → decode cX4_isPassage pc = .ok (.ireturn, 1) → va_P D vwCl [].flatten H → va_D A [].flatten → va_S A s.heap H locs → W p l e R s m args below meth c H locs 0 0 Q (F0 m pc ls [.int (jI v9)])) → W p l e R s m args below meth c s.heap [] 0 0 Q (F0 m 0 ls []) := by
    intro Q hE_
    have hS_ : va_S A s.heap s.heap [] := va_S.rf
    have hl_ : lv_has ls 2 [(0, .int (jI x0)), (1, .int (jI x1))] := hl_
    unfold f_X4_isPassage at h_
    refine lv_iload_n hx_ hb_ dX4_isPassage_0 rfl (lv_at hl_ 0 rfl) ?_
    obtain ⟨v1, hv1, h_⟩ := jb_i h_
    refine jx_csi (b := 0) (C := "") (wr := []) (cw := []) (cw1 := []) (cs1 := []) (As := [.int (jI x0)]) (rest := []) ⟨hx_, hb_, hml_, hown_, hts_⟩ hM_ hP_ hD_ hS_ hA_ (List.Perm.refl _) (List.Perm.refl _) (c_X4_isStep l D y z x0 fu v1 hv1) 1 (va_cwS 1 hts_ gX4_isPassage_X4_isStep rfl rfl rfl (by decide +kernel) ⟨by rw [hR_]; exact Nat.le_of_ble_eq_true rfl, by rw [hR_]; exact Nat.le_of_ble_eq_true rfl⟩) rfl ⟨rfl, rfl⟩ ⟨by rw [hR_]; exact Nat.le_of_ble_eq_true rfl, by rw [hR_]; exact Nat.le_of_ble_eq_true rfl⟩ rfl rfl hl_.1 (Nat.le_of_ble_eq_true rfl) dX4_isPassage_1 ⟨Nat.zero_le _, Nat.zero_le _⟩ (fun H locs hP_ hD_ hS_ => ?_)
    refine jx_if_eq (tgt := 23) hx_ hb_ h_ dX4_isPassage_4 (by decide) (fun h_ => ?_) (fun h_ => ?_)
    · refine lv_iconst (v := jI 0) hx_ hb_ dX4_isPassage_23 (by decide +kernel) ?_
      obtain ⟨hz_, h_⟩ := jbo_i h_
      exact hE_ _ _ _ _ _ h_ hz_ dX4_isPassage_24 hP_ hD_ hS_
    · refine lv_iload_n hx_ hb_ dX4_isPassage_7 rfl (lv_at hl_ 1 rfl) ?_
      obtain ⟨v2, hv2, h_⟩ := jb_i h_
      refine jx_csi (b := 0) (C := "") (wr := []) (cw := []) (cw1 := []) (cs1 := []) (As := [.int (jI x1)]) (rest := []) ⟨hx_, hb_, hml_, hown_, hts_⟩ hM_ hP_ hD_ hS_ hA_ (List.Perm.refl _) (List.Perm.refl _) (c_X4_isStep l D y z x1 fu v2 hv2) 1 (va_cwS 1 hts_ gX4_isPassage_X4_isStep rfl rfl rfl (by decide +kernel) ⟨by rw [hR_]; exact Nat.le_of_ble_eq_true rfl, by rw [hR_]; exact Nat.le_of_ble_eq_true rfl⟩) rfl ⟨rfl, rfl⟩ ⟨by rw [hR_]; exact Nat.le_of_ble_eq_true rfl, by rw [hR_]; exact Nat.le_of_ble_eq_true rfl⟩ rfl rfl hl_.1 (Nat.le_of_ble_eq_true rfl) dX4_isPassage_8 ⟨Nat.zero_le _, Nat.zero_le _⟩ (fun H locs hP_ hD_ hS_ => ?_)
      refine jx_if_eq (tgt := 23) hx_ hb_ h_ dX4_isPassage_11 (by decide) (fun h_ => ?_) (fun h_ => ?_)
      · refine lv_iconst (v := jI 0) hx_ hb_ dX4_isPassage_23 (by decide +kernel) ?_
        obtain ⟨hz_, h_⟩ := jbo_i h_
        exact hE_ _ _ _ _ _ h_ hz_ dX4_isPassage_24 hP_ hD_ hS_
      · refine lv_iload_n hx_ hb_ dX4_isPassage_14 rfl (lv_at hl_ 0 rfl) ?_
        refine lv_iload_n hx_ hb_ dX4_isPassage_15 rfl (lv_at hl_ 1 rfl) ?_
        refine jx_icmp_gt (tgt := 23) hx_ hb_ h_ dX4_isPassage_16 (by decide) (fun h_ => ?_) (fun h_ => ?_)
        · refine lv_iconst (v := jI 0) hx_ hb_ dX4_isPassage_23 (by decide +kernel) ?_
          obtain ⟨hz_, h_⟩ := jbo_i h_
          exact hE_ _ _ _ _ _ h_ hz_ dX4_isPassage_24 hP_ hD_ hS_
        · refine lv_iconst (v := jI 1) hx_ hb_ dX4_isPassage_19 (by decide +kernel) ?_
          refine lv_goto (tgt := 24) hx_ hb_ dX4_isPassage_20 (by decide) ?_
          obtain ⟨hz_, h_⟩ := jbo_i h_
          exact hE_ _ _ _ _ _ h_ hz_ dX4_isPassage_24 hP_ hD_ hS_
  exact key_ _ (fun v9 H locs pc ls h9_ hz_ hdg_ hP_ hD_ hS_ => by cases h9_; exact jend_z hx_ hb_ hr_ hlocks_ hz_ hP_ hD_ hS_ hdg_)
def rm_J7_fill_53178 : Room := { frames := 0, cells := 0, slots := 0, locals := 0 }
set_option maxRecDepth 100000 in
set_option maxHeartbeats 8000000 in
theorem c_J7_fill_53178 (l : Launch) (D : va_G) (y : Nat → ClassId) (z : Nat → Nat) (a0 : Nat) (n0 : Nat) (hn0 : n0 ≤ 2147483648) (q0f : Int → Int) (x1 : Int) (fu : Nat) (q_q0f : Int → Int) (h_ : f_J7_fill_53178 fu n0 q0f x1 = some q_q0f) : jCV l D y z yJ7_fill_53178 wsJ7_fill_53178 rm_J7_fill_53178 [.ref a0, .int (jI x1)] [(wAr y a0 n0 q0f)] [(wAr y a0 n0 q_q0f)] := by
  intro sz
  refine jmetF (Qc := (fun A => va_Qv (fun (_ : Unit) => True) (jB D A [(wAr y a0 n0 q_q0f)]) A)) (cc := cJ7_fill_53178) (maxL := 4) (ret := none) (own := RJ7) (by decide +kernel) rfl (Nat.le_of_ble_eq_true rfl) rfl (fun p e s m R args below meth c A ls hR_ hargs_ hx_ hb_ hr_ hlocks_ hml_ hown_ hts_ hname_ hsz_ hP_ hD_ hA_ hM_ hl_ => ?_)
  have key_ : ∀ Q : State → Prop, (∀ (q0f9 : Int → Int) (H : Heap) (locs : List Loc) (pc : Nat) (ls : Array Slot), some q0f9 = some q_q0f → decode cJ7_fill_53178 pc = .ok (.return_, 1) → va_P D vwCl [(wAr y a0 n0 q0f9)].flatten H → va_D A [(wAr y a0 n0 q0f9)].flatten → va_S A s.heap H locs → W p l e R s m args below meth c H locs 0 0 Q (F0 m pc ls [])) → W p l e R s m args below meth c s.heap [] 0 0 Q (F0 m 0 ls []) := by
    intro Q hE_
    have hS_ : va_S A s.heap s.heap [] := va_S.rf
    have hl_ : lv_has ls 4 [(0, .ref a0), (1, .int (jI x1))] := hl_
    unfold f_J7_fill_53178 at h_
    refine lv_iconst (v := jI 0) hx_ hb_ dJ7_fill_53178_0 (by decide +kernel) ?_
    refine lv_istore_n (lv' := [(2, .int (jI 0)), (0, .ref a0), (1, .int (jI x1))]) hx_ hb_ dJ7_fill_53178_1 rfl hl_ (by decide) rfl (fun ls hl_ => ?_)
    refine lv_aload_n hx_ hb_ dJ7_fill_53178_2 rfl (lv_at hl_ 1 rfl) ?_
    refine va_alen (v := jI (n0 : Int)) hx_ hb_ hM_.1 hP_ 0 0 rfl rfl rfl dJ7_fill_53178_3 ?_
    refine lv_istore_n (lv' := [(3, .int (jI (n0 : Int))), (2, .int (jI 0)), (0, .ref a0), (1, .int (jI x1))]) hx_ hb_ dJ7_fill_53178_4 rfl hl_ (by decide) rfl (fun ls hl_ => ?_)
    have hX20 : ∀ (q0f_m1 : Int → Int) (H : Heap) (locs : List Loc) (ls : Array Slot), f_J7_fill_53178_X20 fu q0f_m1 = some q_q0f → va_P D vwCl [(wAr y a0 n0 q0f_m1)].flatten H → va_D A [(wAr y a0 n0 q0f_m1)].flatten → va_S A s.heap H locs → lv_has ls 4 [] → W p l e R s m args below meth c H locs 0 0 Q (F0 m 20 ls []) := by
      intro q0f_m1 H locs ls h_ hP_ hD_ hS_ hl_
      unfold f_J7_fill_53178_X20 at h_
      exact hE_ _ _ _ _ _ h_ dJ7_fill_53178_20 hP_ hD_ hS_
    have hL5 : ∀ n5 : Nat, ∀ (q0f_m2 : Int → Int) (v3 : Int) (v4 : Int) (H : Heap) (locs : List Loc) (ls : Array Slot), f_J7_fill_53178_L5 fu n0 x1 (f_J7_fill_53178_X20 fu) n5 q0f_m2 v3 v4 = some q_q0f → va_P D vwCl [(wAr y a0 n0 q0f_m2)].flatten H → va_D A [(wAr y a0 n0 q0f_m2)].flatten → va_S A s.heap H locs → lv_has ls 4 [(0, .ref a0), (1, .int (jI x1)), (2, .int (jI v3)), (3, .int (jI v4))] → W p l e R s m args below meth c H locs 0 0 Q (F0 m 5 ls []) := by
      intro n5
      induction n5 with
      | zero => intro _ _ _ H locs ls h_; have h_ : (none : Option ((Int → Int))) = some q_q0f := h_; cases h_
      | succ n5 ih5 =>
        intro q0f_m2 v3 v4 H locs ls h_ hP_ hD_ hS_ hl_
        replace h_ : f_J7_fill_53178_L5_b fu n0 x1 (f_J7_fill_53178_X20 fu) (f_J7_fill_53178_L5 fu n0 x1 (f_J7_fill_53178_X20 fu) n5) q0f_m2 v3 v4 = some q_q0f := h_
        unfold f_J7_fill_53178_L5_b at h_
        refine lv_iload_n hx_ hb_ dJ7_fill_53178_5 rfl (lv_at hl_ 2 rfl) ?_
        refine lv_iload_n hx_ hb_ dJ7_fill_53178_6 rfl (lv_at hl_ 3 rfl) ?_
        refine jx_icmp_ge (tgt := 20) hx_ hb_ h_ dJ7_fill_53178_7 (by decide) (fun h_ => ?_) (fun h_ => ?_)
        · exact hX20 _ _ _ ls h_ hP_ hD_ hS_ (lv_sub hl_ [] rfl)
        · refine lv_aload_n hx_ hb_ dJ7_fill_53178_10 rfl (lv_at hl_ 0 rfl) ?_
          refine lv_iload_n hx_ hb_ dJ7_fill_53178_11 rfl (lv_at hl_ 2 rfl) ?_
          refine lv_iload_n hx_ hb_ dJ7_fill_53178_12 rfl (lv_at hl_ 1 rfl) ?_
          refine jx_iast hx_ hb_ hM_ hP_ hD_ hS_ 0 0 rfl rfl rfl hn0 h_ dJ7_fill_53178_13 (fun H locs h_ hP_ hD_ hS_ => ?_)
          have hP_ : va_P D vwCl [(wAr y a0 n0 (uI q0f_m2 v3 x1))].flatten H := hP_
          have hD_ : va_D A [(wAr y a0 n0 (uI q0f_m2 v3 x1))].flatten := hD_
          refine lv_iinc (v := jI (v3 + 1)) (lv' := [(2, .int (jI (v3 + 1))), (0, .ref a0), (1, .int (jI x1)), (3, .int (jI v4))]) hx_ hb_ dJ7_fill_53178_14 hl_ (k := 2) rfl (jI_add _ _) (by decide) rfl (fun ls hl_ => ?_)
          refine lv_goto (tgt := 5) hx_ hb_ dJ7_fill_53178_17 (by decide) ?_
          exact ih5 _ _ _ _ _ ls h_ hP_ hD_ hS_ (lv_sub hl_ [1, 2, 0, 3] rfl)
    exact hL5 fu _ _ _ _ _ ls h_ hP_ hD_ hS_ (lv_sub hl_ [2, 3, 1, 0] rfl)
  exact key_ _ (fun q0f9 H locs pc ls h9_ hdg_ hP_ hD_ hS_ => by cases h9_; exact jend_v hx_ hb_ hr_ hlocks_ hP_ hD_ hS_ hdg_)
def rm_J6_bitCount_0f7a4 : Room := { frames := 0, cells := 0, slots := 0, locals := 0 }
set_option maxRecDepth 100000 in
set_option maxHeartbeats 8000000 in
theorem c_J6_bitCount_0f7a4 (l : Launch) (D : va_G) (y : Nat → ClassId) (z : Nat → Nat)   (x0 : Int) (fu : Nat) (rr : Int) (h_ : f_J6_bitCount_0f7a4 fu x0 = some rr) : jCI l D y z yJ6_bitCount_0f7a4 wsJ6_bitCount_0f7a4 rm_J6_bitCount_0f7a4 [.int (jI x0)] [] [] rr := by
  intro sz
  refine jmetF (Qc := (fun A => va_Qi (fun v (_ : Unit) => v = jI rr) (jB D A []) A)) (cc := cJ6_bitCount_0f7a4) (maxL := 1) (ret := (some .int)) (own := RJ6) (by decide +kernel) rfl (Nat.le_of_ble_eq_true rfl) rfl (fun p e s m R args below meth c A ls hR_ hargs_ hx_ hb_ hr_ hlocks_ hml_ hown_ hts_ hname_ hsz_ hP_ hD_ hA_ hM_ hl_ => ?_)
  have key_ : ∀ Q : State → Prop, (∀ (v9 : Int) (H : Heap) (locs : List Loc) (pc : Nat) (ls : Array Slot), some v9 = some rr → decode cJ6_bitCount_0f7a4 pc = .ok (.ireturn, 1) → va_P D vwCl [].flatten H → va_D A [].flatten → va_S A s.heap H locs → W p l e R s m args below meth c H locs 0 0 Q (F0 m pc ls [.int (jI v9)])) → W p l e R s m args below meth c s.heap [] 0 0 Q (F0 m 0 ls []) := by
    intro Q hE_
    have hS_ : va_S A s.heap s.heap [] := va_S.rf
    have hl_ : lv_has ls 1 [(0, .int (jI x0))] := hl_
    unfold f_J6_bitCount_0f7a4 at h_
    refine lv_iload_n hx_ hb_ dJ6_bitCount_0f7a4_0 rfl (lv_at hl_ 0 rfl) ?_
    refine lv_iload_n hx_ hb_ dJ6_bitCount_0f7a4_1 rfl (lv_at hl_ 0 rfl) ?_
    refine lv_iconst (v := jI 1) hx_ hb_ dJ6_bitCount_0f7a4_2 (by decide +kernel) ?_
    refine jx_iushr hx_ hb_ dJ6_bitCount_0f7a4_3 ?_
    refine lv_ldcw (v := jI 1431655765) hx_ hb_ hown_ (hts_ (.constant RJ6 265 (jI 1431655765)) (by decide +kernel)) dJ6_bitCount_0f7a4_4 ?_
    refine jx_iand hx_ hb_ dJ6_bitCount_0f7a4_7 ?_
    refine jx_isub hx_ hb_ dJ6_bitCount_0f7a4_8 ?_
    refine lv_istore_n (lv' := [(0, .int (jI (x0 - (jand (jushr x0 1) 1431655765))))]) hx_ hb_ dJ6_bitCount_0f7a4_9 rfl hl_ (by decide) rfl (fun ls hl_ => ?_)
    refine lv_iload_n hx_ hb_ dJ6_bitCount_0f7a4_10 rfl (lv_at hl_ 0 rfl) ?_
    refine lv_ldcw (v := jI 858993459) hx_ hb_ hown_ (hts_ (.constant RJ6 266 (jI 858993459)) (by decide +kernel)) dJ6_bitCount_0f7a4_11 ?_
    refine jx_iand hx_ hb_ dJ6_bitCount_0f7a4_14 ?_
    refine lv_iload_n hx_ hb_ dJ6_bitCount_0f7a4_15 rfl (lv_at hl_ 0 rfl) ?_
    refine lv_iconst (v := jI 2) hx_ hb_ dJ6_bitCount_0f7a4_16 (by decide +kernel) ?_
    refine jx_iushr hx_ hb_ dJ6_bitCount_0f7a4_17 ?_
    refine lv_ldcw (v := jI 858993459) hx_ hb_ hown_ (hts_ (.constant RJ6 266 (jI 858993459)) (by decide +kernel)) dJ6_bitCount_0f7a4_18 ?_
    refine jx_iand hx_ hb_ dJ6_bitCount_0f7a4_21 ?_
    refine jx_iadd hx_ hb_ dJ6_bitCount_0f7a4_22 ?_
    refine lv_istore_n (lv' := [(0, .int (jI ((jand (x0 - (jand (jushr x0 1) 1431655765)) 858993459) + (jand (jushr (x0 - (jand (jushr x0 1) 1431655765)) 2) 858993459))))]) hx_ hb_ dJ6_bitCount_0f7a4_23 rfl hl_ (by decide) rfl (fun ls hl_ => ?_)
    refine lv_iload_n hx_ hb_ dJ6_bitCount_0f7a4_24 rfl (lv_at hl_ 0 rfl) ?_
    refine lv_iload_n hx_ hb_ dJ6_bitCount_0f7a4_25 rfl (lv_at hl_ 0 rfl) ?_
    refine lv_iconst (v := jI 4) hx_ hb_ dJ6_bitCount_0f7a4_26 (by decide +kernel) ?_
    refine jx_iushr hx_ hb_ dJ6_bitCount_0f7a4_27 ?_
    refine jx_iadd hx_ hb_ dJ6_bitCount_0f7a4_28 ?_
    refine lv_ldcw (v := jI 252645135) hx_ hb_ hown_ (hts_ (.constant RJ6 267 (jI 252645135)) (by decide +kernel)) dJ6_bitCount_0f7a4_29 ?_
    refine jx_iand hx_ hb_ dJ6_bitCount_0f7a4_32 ?_
    refine lv_istore_n (lv' := [(0, .int (jI (jand (((jand (x0 - (jand (jushr x0 1) 1431655765)) 858993459) + (jand (jushr (x0 - (jand (jushr x0 1) 1431655765)) 2) 858993459)) + (jushr ((jand (x0 - (jand (jushr x0 1) 1431655765)) 858993459) + (jand (jushr (x0 - (jand (jushr x0 1) 1431655765)) 2) 858993459)) 4)) 252645135)))]) hx_ hb_ dJ6_bitCount_0f7a4_33 rfl hl_ (by decide) rfl (fun ls hl_ => ?_)
    refine lv_iload_n hx_ hb_ dJ6_bitCount_0f7a4_34 rfl (lv_at hl_ 0 rfl) ?_
    refine lv_iload_n hx_ hb_ dJ6_bitCount_0f7a4_35 rfl (lv_at hl_ 0 rfl) ?_
    refine lv_bipush (v := jI 8) hx_ hb_ dJ6_bitCount_0f7a4_36 (by decide +kernel) ?_
    refine jx_iushr hx_ hb_ dJ6_bitCount_0f7a4_38 ?_
    refine jx_iadd hx_ hb_ dJ6_bitCount_0f7a4_39 ?_
    refine lv_istore_n (lv' := [(0, .int (jI ((jand (((jand (x0 - (jand (jushr x0 1) 1431655765)) 858993459) + (jand (jushr (x0 - (jand (jushr x0 1) 1431655765)) 2) 858993459)) + (jushr ((jand (x0 - (jand (jushr x0 1) 1431655765)) 858993459) + (jand (jushr (x0 - (jand (jushr x0 1) 1431655765)) 2) 858993459)) 4)) 252645135) + (jushr (jand (((jand (x0 - (jand (jushr x0 1) 1431655765)) 858993459) + (jand (jushr (x0 - (jand (jushr x0 1) 1431655765)) 2) 858993459)) + (jushr ((jand (x0 - (jand (jushr x0 1) 1431655765)) 858993459) + (jand (jushr (x0 - (jand (jushr x0 1) 1431655765)) 2) 858993459)) 4)) 252645135) 8))))]) hx_ hb_ dJ6_bitCount_0f7a4_40 rfl hl_ (by decide) rfl (fun ls hl_ => ?_)
    refine lv_iload_n hx_ hb_ dJ6_bitCount_0f7a4_41 rfl (lv_at hl_ 0 rfl) ?_
    refine lv_iload_n hx_ hb_ dJ6_bitCount_0f7a4_42 rfl (lv_at hl_ 0 rfl) ?_
    refine lv_bipush (v := jI 16) hx_ hb_ dJ6_bitCount_0f7a4_43 (by decide +kernel) ?_
    refine jx_iushr hx_ hb_ dJ6_bitCount_0f7a4_45 ?_
    refine jx_iadd hx_ hb_ dJ6_bitCount_0f7a4_46 ?_
    refine lv_istore_n (lv' := [(0, .int (jI (((jand (((jand (x0 - (jand (jushr x0 1) 1431655765)) 858993459) + (jand (jushr (x0 - (jand (jushr x0 1) 1431655765)) 2) 858993459)) + (jushr ((jand (x0 - (jand (jushr x0 1) 1431655765)) 858993459) + (jand (jushr (x0 - (jand (jushr x0 1) 1431655765)) 2) 858993459)) 4)) 252645135) + (jushr (jand (((jand (x0 - (jand (jushr x0 1) 1431655765)) 858993459) + (jand (jushr (x0 - (jand (jushr x0 1) 1431655765)) 2) 858993459)) + (jushr ((jand (x0 - (jand (jushr x0 1) 1431655765)) 858993459) + (jand (jushr (x0 - (jand (jushr x0 1) 1431655765)) 2) 858993459)) 4)) 252645135) 8)) + (jushr ((jand (((jand (x0 - (jand (jushr x0 1) 1431655765)) 858993459) + (jand (jushr (x0 - (jand (jushr x0 1) 1431655765)) 2) 858993459)) + (jushr ((jand (x0 - (jand (jushr x0 1) 1431655765)) 858993459) + (jand (jushr (x0 - (jand (jushr x0 1) 1431655765)) 2) 858993459)) 4)) 252645135) + (jushr (jand (((jand (x0 - (jand (jushr x0 1) 1431655765)) 858993459) + (jand (jushr (x0 - (jand (jushr x0 1) 1431655765)) 2) 858993459)) + (jushr ((jand (x0 - (jand (jushr x0 1) 1431655765)) 858993459) + (jand (jushr (x0 - (jand (jushr x0 1) 1431655765)) 2) 858993459)) 4)) 252645135) 8)) 16))))]) hx_ hb_ dJ6_bitCount_0f7a4_47 rfl hl_ (by decide) rfl (fun ls hl_ => ?_)
    refine lv_iload_n hx_ hb_ dJ6_bitCount_0f7a4_48 rfl (lv_at hl_ 0 rfl) ?_
    refine lv_bipush (v := jI 63) hx_ hb_ dJ6_bitCount_0f7a4_49 (by decide +kernel) ?_
    refine jx_iand hx_ hb_ dJ6_bitCount_0f7a4_51 ?_
    exact hE_ _ _ _ _ _ h_ dJ6_bitCount_0f7a4_52 hP_ hD_ hS_
  exact key_ _ (fun v9 H locs pc ls h9_ hdg_ hP_ hD_ hS_ => by cases h9_; exact jend_i hx_ hb_ hr_ hlocks_ hP_ hD_ hS_ hdg_)
def rm_X4_noneIfMissing : Room := { frames := 0, cells := 0, slots := 0, locals := 0 }
set_option maxRecDepth 100000 in
set_option maxHeartbeats 8000000 in
theorem c_X4_noneIfMissing (l : Launch) (D : va_G) (y : Nat → ClassId) (z : Nat → Nat)   (x0 : Int) (fu : Nat) (rr : Int) (h_ : f_X4_noneIfMissing fu x0 = some rr) : jCI l D y z yX4_noneIfMissing wsX4_noneIfMissing rm_X4_noneIfMissing [.int (jI x0)] [] [] rr := by
  intro sz
  refine jmet (Qc := (fun A => va_Qi (fun v (_ : Unit) => v = jI rr) (jB D A []) A)) (cc := cX4_noneIfMissing) (maxL := 1) (ret := (some .int)) (own := RX4) (by decide) rfl (Nat.le_of_ble_eq_true rfl) rfl (fun p e s m R args below meth c A ls hR_ hargs_ hx_ hb_ hr_ hlocks_ hml_ hown_ hts_ hname_ hsz_ hP_ hD_ hA_ hM_ hl_ => ?_)
  have key_ : ∀ Q : State → Prop, (∀ (v9 : Int) (H : Heap) (locs : List Loc) (pc : Nat) (ls : Array Slot), some v9 = some rr → decode cX4_noneIfMissing pc = .ok (.ireturn, 1) → va_P D vwCl [].flatten H → va_D A [].flatten → va_S A s.heap H locs → W p l e R s m args below meth c H locs 0 0 Q (F0 m pc ls [.int (jI v9)])) → W p l e R s m args below meth c s.heap [] 0 0 Q (F0 m 0 ls []) := by
    intro Q hE_
    have hS_ : va_S A s.heap s.heap [] := va_S.rf
    have hl_ : lv_has ls 1 [(0, .int (jI x0))] := hl_
    unfold f_X4_noneIfMissing at h_
    refine lv_iload_n hx_ hb_ dX4_noneIfMissing_0 rfl (lv_at hl_ 0 rfl) ?_
    refine jx_if_ge (tgt := 9) hx_ hb_ h_ dX4_noneIfMissing_1 (by decide) (fun h_ => ?_) (fun h_ => ?_)
    · refine lv_iload_n hx_ hb_ dX4_noneIfMissing_9 rfl (lv_at hl_ 0 rfl) ?_
      exact hE_ _ _ _ _ _ h_ dX4_noneIfMissing_10 hP_ hD_ hS_
    · refine lv_bipush (v := jI (-6)) hx_ hb_ dX4_noneIfMissing_4 (by decide +kernel) ?_
      refine lv_goto (tgt := 10) hx_ hb_ dX4_noneIfMissing_6 (by decide) ?_
      exact hE_ _ _ _ _ _ h_ dX4_noneIfMissing_10 hP_ hD_ hS_
  exact key_ _ (fun v9 H locs pc ls h9_ hdg_ hP_ hD_ hS_ => by cases h9_; exact jend_i hx_ hb_ hr_ hlocks_ hP_ hD_ hS_ hdg_)
