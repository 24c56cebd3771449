def rm_X1_length : Room := { frames := 0, cells := 0, slots := 0, locals := 0 }
set_option maxRecDepth 100000 in
set_option maxHeartbeats 8000000 in
theorem c_X1_length (l : Launch) (D : va_G) (y : Nat → ClassId) (z : Nat → Nat) (a : Nat → Nat) (tx : Int → Int) (le : Int) (po : Int) (pt : Int → Int) (pf : Int → Int) (pl : Int → Int) (pa : Int → Int) (fo : Int)  (fu : Nat) (rr : Int) (h_ : f_X1_length fu le = some rr) : jCI l D y z yX1_length wsX1_length rm_X1_length [.ref (a 0)] [(wPd y a tx le po pt pf pl pa fo)] [(wPd y a tx le po pt pf pl pa fo)] rr := by
  intro sz
  refine jmet (Qc := (fun A => va_Qi (fun v (_ : Unit) => v = jI rr) (jB D A [(wPd y a tx le po pt pf pl pa fo)]) A)) (cc := cX1_length) (maxL := 1) (ret := (some .int)) (own := RX1) (by decide) rfl (Nat.le_of_ble_eq_true rfl) rfl (fun p e s m R args below meth c A ls hR_ hargs_ hx_ hb_ hr_ hlocks_ hml_ hown_ hts_ hname_ hsz_ hP_ hD_ hA_ hM_ hl_ => ?_)
  have key_ : ∀ Q : State → Prop, (∀ (v9 : Int) (H : Heap) (locs : List Loc) (pc : Nat) (ls : Array Slot), some v9 = some rr → decode cX1_length pc = .ok (.ireturn, 1) → va_P D vwCl [(wPd y a tx le po pt pf pl pa fo)].flatten H → va_D A [(wPd y a tx le po pt pf pl pa fo)].flatten → va_S A s.heap H locs → W p l e R s m args below meth c H locs 0 0 Q (F0 m pc ls [.int (jI v9)])) → W p l e R s m args below meth c s.heap [] 0 0 Q (F0 m 0 ls []) := by
    intro Q hE_
    have hS_ : va_S A s.heap s.heap [] := va_S.rf
    have hl_ : lv_has ls 1 [(0, .ref (a 0))] := hl_
    have hin_ : ∀ w ∈ u_ws RX1 TX1 8, w ∈ wsX1_length := by decide +kernel
    unfold f_X1_length at h_
    refine lv_aload_n hx_ hb_ dX1_length_0 rfl (lv_at hl_ 0 rfl) ?_
    refine va_get (D := D) (ci := 1) (v := .int (jI le)) (C := RX1) (T := TX1) (N := 8) hx_ hb_ hts_ hin_ hown_ hM_.1 hP_ 0 rfl rfl 1 (by decide) (hts_ (.fieldLink RX1 29 "MusicHoles$Pad" "length" "I") (by decide +kernel)) (fun _ h9_ => h9_) rfl dX1_length_1 ?_
    exact hE_ _ _ _ _ _ h_ dX1_length_4 hP_ hD_ hS_
  exact key_ _ (fun v9 H locs pc ls h9_ hdg_ hP_ hD_ hS_ => by cases h9_; exact jend_i hx_ hb_ hr_ hlocks_ hP_ hD_ hS_ hdg_)
