/-! the law's acts: the looking behind each, settings, shifts and accents, notes dropped and put in -/
abbrev OT : Type := (Int × (Int → Int) × (Int → Int) × (Int → Int) × (Int → Int) × (Int → Int) × (Int → Int) × Int × (Int → Int) × (Int → Int) × (Int → Int) × (Int → Int) × (Int → Int) × (Int → Int) × Int × (Int → Int) × Int × (Int → Int) × Int × Int × (Int → Int → Int) × (Int → Int → Int) × (Int → Int → Int) × (Int → Int → Int) × (Int → Int → Int) × (Int → Int → Int) × (Int → Int) × (Int → Int) × (Int → Int) × (Int → Int))
abbrev CT : Type := (Int → Int) → (Int → Int) → (Int → Int) → (Int → Int) → (Int → Int) → (Int → Int) → Int → (Int → Int) → (Int → Int) → (Int → Int) → (Int → Int) → (Int → Int) → (Int → Int) → Int → (Int → Int) → Int → (Int → Int) → Int → Int → (Int → Int → Int) → (Int → Int → Int) → (Int → Int → Int) → (Int → Int → Int) → (Int → Int → Int) → (Int → Int → Int) → (Int → Int) → (Int → Int) → (Int → Int) → (Int → Int) → Option OT
abbrev JT : Type := (Int → Int) → (Int → Int) → (Int → Int) → (Int → Int) → (Int → Int) → (Int → Int) → Int → (Int → Int) → (Int → Int) → (Int → Int) → (Int → Int) → (Int → Int) → (Int → Int) → Int → (Int → Int) → Int → (Int → Int) → Int → Int → (Int → Int → Int) → (Int → Int → Int) → (Int → Int → Int) → (Int → Int → Int) → (Int → Int → Int) → (Int → Int → Int) → (Int → Int) → (Int → Int) → (Int → Int) → (Int → Int) → Int → Option OT
def GD {σ : Type} (X : Option (Int × σ)) : Prop := ∃ r, X = some (1, r)
/-- whatever the state (of the right kind), it goes well from here on -/
def OKE (F : CT) : Prop := ∀ (se tr fi la sh ac : Int → Int) (no : Int) (u_se u_tr u_fi u_la u_sh u_ac : Int → Int) (u_no : Int) (p_eh : Int → Int) (p_we : Int) (p_hf : Int → Int) (ol si : Int) (k_se k_tr k_fi k_la k_sh k_ac : Int → Int → Int) (k_no : Int → Int) (lq ln lh : Int → Int), LST lq ln se tr fi la sh ac no → HS ol si → AC u_ac → GD (F se tr fi la sh ac no u_se u_tr u_fi u_la u_sh u_ac u_no p_eh p_we p_hf ol si k_se k_tr k_fi k_la k_sh k_ac k_no lq ln lh)
def OKJ (F : JT) (i : Int) : Prop := ∀ (se tr fi la sh ac : Int → Int) (no : Int) (u_se u_tr u_fi u_la u_sh u_ac : Int → Int) (u_no : Int) (p_eh : Int → Int) (p_we : Int) (p_hf : Int → Int) (ol si : Int) (k_se k_tr k_fi k_la k_sh k_ac : Int → Int → Int) (k_no : Int → Int) (lq ln lh : Int → Int), LST lq ln se tr fi la sh ac no → HS ol si → AC u_ac → GD (F se tr fi la sh ac no u_se u_tr u_fi u_la u_sh u_ac u_no p_eh p_we p_hf ol si k_se k_tr k_fi k_la k_sh k_ac k_no lq ln lh i)
section Q77
variable {fu : Nat} {se tr fi la sh ac u_se u_tr u_fi u_la u_sh u_ac p_eh p_hf lq ln lh xc : Int → Int} {no u_no p_we ol si d_le i : Int} {k_se k_tr k_fi k_la k_sh k_ac : Int → Int → Int} {k_no : Int → Int}
theorem a_end {J : JT} (hJ : OKJ J (i + 1)) (hf : 2000 ≤ fu) : OKE (f_L_law_J1390 fu d_le xc i J) := by
  intro se tr fi la sh ac no u_se u_tr u_fi u_la u_sh u_ac u_no p_eh p_we p_hf ol si k_se k_tr k_fi k_la k_sh k_ac k_no lq ln lh hL hH hU
  unfold f_L_law_J1390
  obtain ⟨e1, w1, y1, lh1, c1⟩ := L_same (fu := fu) (p_eh := p_eh) (p_we := p_we) (p_hf := p_hf) (lh := lh) (d_le := d_le) (g_si := si) (x1 := jshr (xc i) 3) hL (by omega)
  obtain ⟨v, ev, v0, v1⟩ := L_low (fu := fu) (x := jshr (xc i) 14) (n := 4) (by omega) (by omega)
  rw [c1, jb5_s, jck_of (by omega) (by omega) (by omega) (by omega), if_neg (by omega), ev, jb_s, jck_of (by omega) (by omega) (by omega) (by omega)]
  by_cases c : v = 0
  · obtain ⟨v_se, v_tr, v_fi, v_la, v_sh, v_ac, v_no, e2, w2, y2, lq2, ln2, lh2, c2, hL2, hU2⟩ := L_would (fu := fu) (u_se := u_se) (u_tr := u_tr) (u_fi := u_fi) (u_la := u_la) (u_sh := u_sh) (u_ac := u_ac) (u_no := u_no) (p_eh := e1) (p_we := w1) (p_hf := y1) (lh := lh1) (x1 := jshr (xc i) 2) hL hf
    rw [if_neg (by omega), c2, jb14_s, jck_of (by omega) (by omega) (by omega) (by omega), if_pos (show (1 : Int) ≠ 0 by omega)]
    exact hJ _ _ _ _ _ _ _ _ _ _ _ _ _ _ _ _ _ _ _ _ _ _ _ _ _ _ _ _ _ hL2 hH hU2
  · rw [if_pos c]
    exact hJ _ _ _ _ _ _ _ _ _ _ _ _ _ _ _ _ _ _ _ _ _ _ _ _ _ _ _ _ _ hL hH hU
theorem SE_set {w v : Int} (hE : SE se) (d : (w = 0 ∧ 1 ≤ v ∧ v ≤ 9) ∨ (w = 1 ∧ 1 ≤ v ∧ v ≤ 4) ∨ (w = 2 ∧ 0 ≤ v ∧ v ≤ 4) ∨ (w = 3 ∧ 2 ≤ v ∧ v ≤ 12)) : SE (uI se w v) := by
  obtain ⟨b1, b2, b3, b4, b5, b6, b7, b8⟩ := hE
  unfold SE uI
  rcases d with ⟨h, d1, d2⟩ | ⟨h, d1, d2⟩ | ⟨h, d1, d2⟩ | ⟨h, d1, d2⟩ <;> subst h <;> refine ⟨?_, ?_, ?_, ?_, ?_, ?_, ?_, ?_⟩ <;> split <;> omega
theorem a_set {J : JT} {w v : Int} (hE : OKE (f_L_law_J1390 fu d_le xc i J)) (hL : LST lq ln se tr fi la sh ac no) (hH : HS ol si) (hU : AC u_ac) (d : (w = 0 ∧ 1 ≤ v ∧ v ≤ 9) ∨ (w = 1 ∧ 1 ≤ v ∧ v ≤ 4) ∨ (w = 2 ∧ 0 ≤ v ∧ v ≤ 4) ∨ (w = 3 ∧ 2 ≤ v ∧ v ≤ 12)) (hf : 2000 ≤ fu) : GD (f_L_law_J1365 fu d_le xc se tr fi la sh ac no u_se u_tr u_fi u_la u_sh u_ac u_no p_eh p_we p_hf ol si lq ln lh i w J k_se k_tr k_fi k_la k_sh k_ac k_no v) := by
  obtain ⟨ol', si', k1, k2, k3, k4, k5, k6, k7, e1, hH'⟩ := ca_set (fu := fu) (se := se) (tr := tr) (fi := fi) (la := la) (sh := sh) (no := no) (k_se := k_se) (k_tr := k_tr) (k_fi := k_fi) (k_la := k_la) (k_sh := k_sh) (k_ac := k_ac) (k_no := k_no) hL.2.1.2.1 hH d hf
  obtain ⟨⟨q0, q1, q2, q3⟩, q4, q5⟩ := hL.1
  have hqw : lq w = se w := by
    rcases d with ⟨h, -⟩ | ⟨h, -⟩ | ⟨h, -⟩ | ⟨h, -⟩ <;> subst h
    · exact q0
    · exact q1
    · exact q2
    · exact q3
  have hw : 0 ≤ w ∧ w < 4 := by omega
  have hrs : -100 ≤ se w ∧ se w ≤ 100 := by
    obtain ⟨b1, b2, b3, b4, b5, b6, b7, b8⟩ := hL.2.2.1
    rcases d with ⟨h, -⟩ | ⟨h, -⟩ | ⟨h, -⟩ | ⟨h, -⟩ <;> subst h <;> omega
  unfold f_L_law_J1365
  rw [e1, jb11_s, jix_of (by omega) (by omega), hqw, jck_of (by omega) (by omega) (by omega) (by omega), if_pos rfl, jix_of (by omega) (by omega)]
  have hk : ∀ k, lq k = se k → uI lq w v k = uI se w v k := fun k h => by
    by_cases c : k = w
    · rw [c, uI_s, uI_s]
    · rw [uI_n _ _ c, uI_n _ _ c]; exact h
  exact hE _ _ _ _ _ _ _ _ _ _ _ _ _ _ _ _ _ _ _ _ _ _ _ _ _ _ _ _ _ ⟨⟨⟨hk 0 q0, hk 1 q1, hk 2 q2, hk 3 q3⟩, by rw [uI_n _ _ (by omega)]; exact q4, q5⟩, hL.2.1, SE_set hL.2.2.1 d, hL.2.2.2⟩ hH' hU
theorem LRm_ac {n v : Int} (hR : LRm lq ln se tr fi la sh ac no) : LRm lq (uI ln (5 * n + 3) v) se tr fi la sh (uI ac n v) no := by
  refine ⟨hR.1, hR.2.1, fun k k0 k1 => ?_⟩
  obtain ⟨r0, r1, r2, r3⟩ := lr4 (hR.2.2 k k0 k1)
  refine lr4_of ?_ ?_ ?_ ?_
  · rw [uI_n _ _ (by omega)]; exact r0
  · rw [uI_n _ _ (by omega)]; exact r1
  · rw [uI_n _ _ (by omega)]; exact r2
  · by_cases c : k = n
    · rw [c, uI_s, uI_s]
    · rw [uI_n _ _ (by omega), uI_n _ _ c]; exact r3
theorem a_mark {J : JT} {n v b : Int} (hE : OKE (f_L_law_J1390 fu d_le xc i J)) (hL : LST lq ln se tr fi la sh ac no) (hH : HS ol si) (hU : AC u_ac) (n0 : 0 ≤ n) (n1 : n < no) (v0 : 0 ≤ v) (v1 : v ≤ 12) (hb : b = 0 ∨ b = 1) (hf : 2000 ≤ fu) : GD (f_L_law_J436 fu d_le xc se tr fi la sh ac no u_se u_tr u_fi u_la u_sh u_ac u_no p_eh p_we p_hf ol si lq ln lh i n v J k_se k_tr k_fi k_la k_sh k_ac k_no b) := by
  have hI := hL.2.1
  have n12 := hL.2.2.2.1
  obtain ⟨a1, a2, a3, a4, a5, a6, a7⟩ := hI.1.2.2 n n0 n1
  have hac := hI.2.1 n n0 (by omega)
  obtain ⟨r0, r1, r2, r3⟩ := lr4 (hL.1.2.2 n n0 n1)
  obtain ⟨ol', si', k1, k2, k3, k4, k5, k6, k7, e1, hH'⟩ := ca_shift (fu := fu) (se := se) (k_se := k_se) (k_tr := k_tr) (k_fi := k_fi) (k_la := k_la) (k_sh := k_sh) (k_ac := k_ac) (k_no := k_no) (x1 := n) (x2 := v) hI hH n0 n1 ⟨v0, v1⟩ hf
  have hI2 := INV_sh (x := n) (v := v) hI v0 v1
  obtain ⟨ol2, si2, l1, l2, l3, l4, l5, l6, l7, e2, hH2⟩ := ca_accent (fu := fu) (se := se) (k_se := k1) (k_tr := k2) (k_fi := k3) (k_la := k4) (k_sh := k5) (k_ac := k6) (k_no := k7) (x1 := n) (x2 := b) hI2 hH' n0 n1 hb hf
  have hR2 := LRm_ac (n := n) (v := b) (LRm_sh (n := n) (v := v) hL.1 (ln' := ln) (fun k _ => rfl))
  unfold f_L_law_J436
  rw [e1, jb11_s, jix_of (by omega) (by omega), r2, jck_of (by omega) (by omega) (by omega) (by omega), nn, e2, jb11_s, jix_of (by omega) (by omega), r3, jck_of (by omega) (by omega) (by omega) (by omega), if_pos rfl, jix_of (by omega) (by omega), jck_of (by omega) (by omega) (by omega) (by omega)]
  unfold f_L_law_J505
  have go := hE _ _ _ _ _ _ _ u_se u_tr u_fi u_la u_sh u_ac u_no p_eh p_we p_hf ol2 si2 l1 l2 l3 l4 l5 l6 l7 _ _ lh ⟨hR2, INV_ac hI2 hb, hL.2.2.1, hL.2.2.2⟩ hH2 hU
  rcases hb with h | h
  · rw [if_pos h, jix_of (by omega) (by omega)]; rw [h] at go ⊢; exact go
  · rw [if_neg (by omega), jix_of (by omega) (by omega)]; rw [h] at go ⊢; exact go
theorem a_drop {J : JT} {n : Int} (hE : OKE (f_L_law_J1390 fu d_le xc i J)) (hL : LST lq ln se tr fi la sh ac no) (hH : HS ol si) (hU : AC u_ac) (n0 : 0 ≤ n) (n1 : n < no) (hf : 2000 ≤ fu) :
    ∃ r tr' fi' la' sh' ac' no' ol' si' k1 k2 k3 k4 k5 k6 k7, f_X4_drop fu se tr fi la sh ac no ol si k_se k_tr k_fi k_la k_sh k_ac k_no n = some (r, tr', fi', la', sh', ac', no', ol', si', k1, k2, k3, k4, k5, k6, k7) ∧ GD (f_L_law_J340 fu d_le xc se u_se u_tr u_fi u_la u_sh u_ac u_no p_eh p_we p_hf lq ln lh i n r tr' fi' la' sh' ac' no' ol' si' J k1 k2 k3 k4 k5 k6 k7 (no - 1)) := by
  have hI := hL.2.1
  have n12 := hL.2.2.2.1
  obtain ⟨ol', si', k1, k2, k3, k4, k5, k6, k7, e1, hH'⟩ := ca_drop (fu := fu) (se := se) (k_se := k_se) (k_tr := k_tr) (k_fi := k_fi) (k_la := k_la) (k_sh := k_sh) (k_ac := k_ac) (k_no := k_no) (x1 := n) hI hH n0 n1 hf
  refine ⟨_, _, _, _, _, _, _, _, _, _, _, _, _, _, _, _, e1, ?_⟩
  unfold f_L_law_J340
  rw [jck_of (by omega) (by omega) (by omega) (by omega), if_pos rfl, jix_of (by omega) (by omega), hL.1.2.1, jck_of (by omega) (by omega) (by omega) (by omega), if_neg (by omega)]
  obtain ⟨p, e, i1, i2⟩ := loop_upI (L := fun q (v : Int → Int) x => f_L_law_L357 fu (f_L_law_X385 fu d_le xc i J) q se (shd tr n (no - 1)) (shd fi n (no - 1)) (shd la n (no - 1)) (shd sh n (no - 1)) (shd ac n (no - 1)) (no - 1) u_se u_tr u_fi u_la u_sh u_ac u_no p_eh p_we p_hf ol' si' k1 k2 k3 k4 k5 k6 k7 lq v lh x) (fun v => f_L_law_X385 fu d_le xc i J se (shd tr n (no - 1)) (shd fi n (no - 1)) (shd la n (no - 1)) (shd sh n (no - 1)) (shd ac n (no - 1)) (no - 1) u_se u_tr u_fi u_la u_sh u_ac u_no p_eh p_we p_hf ol' si' k1 k2 k3 k4 k5 k6 k7 lq v lh)
    (fun x v => 5 * n ≤ x ∧ v = fun q => if 5 * n ≤ q ∧ q < x then ln (q + 5) else ln q) (5 * (no - 1))
    (fun q v hI => by
      show f_L_law_L357_b fu _ _ se (shd tr n (no - 1)) (shd fi n (no - 1)) (shd la n (no - 1)) (shd sh n (no - 1)) (shd ac n (no - 1)) (no - 1) u_se u_tr u_fi u_la u_sh u_ac u_no p_eh p_we p_hf ol' si' k1 k2 k3 k4 k5 k6 k7 lq v lh (5 * (no - 1)) = _
      unfold f_L_law_L357_b
      rw [jix_of (by omega) (by omega), hL.1.2.1, jck_of (by omega) (by omega) (by omega) (by omega), if_pos (by omega)])
    (fun q v x hx hI => by
      obtain ⟨i1, i2⟩ := hI
      refine ⟨uI v x (v (x + 5)), ?_, by omega, ?_⟩
      · show f_L_law_L357_b fu _ _ se (shd tr n (no - 1)) (shd fi n (no - 1)) (shd la n (no - 1)) (shd sh n (no - 1)) (shd ac n (no - 1)) (no - 1) u_se u_tr u_fi u_la u_sh u_ac u_no p_eh p_we p_hf ol' si' k1 k2 k3 k4 k5 k6 k7 lq v lh x = _
        unfold f_L_law_L357_b
        rw [jix_of (by omega) (by omega), hL.1.2.1, jck_of (by omega) (by omega) (by omega) (by omega), if_neg (by omega), jix_of (by omega) (by omega), jix_of (by omega) (by omega)]
      · funext q
        have ev : v (x + 5) = ln (x + 5) := by rw [i2]; show (if 5 * n ≤ x + 5 ∧ x + 5 < x then ln (x + 5 + 5) else ln (x + 5)) = _; rw [if_neg (by omega)]
        rw [ev, i2]
        by_cases c : q = x
        · rw [c, uI_s]
          show _ = if 5 * n ≤ x ∧ x < x + 1 then ln (x + 5) else ln x
          rw [if_pos (by omega)]
        · rw [uI_n _ _ c]
          show (if 5 * n ≤ q ∧ q < x then ln (q + 5) else ln q) = if 5 * n ≤ q ∧ q < x + 1 then ln (q + 5) else ln q
          by_cases d : 5 * n ≤ q ∧ q < x
          · rw [if_pos d, if_pos (by omega)]
          · rw [if_neg d, if_neg (by omega)])
    (5 * (no - 1) - 5 * n).toNat fu ln (5 * n) (by omega) (by omega) ⟨by omega, by funext q; rw [if_neg (by omega)]⟩
  have e' : f_L_law_L357 fu (f_L_law_X385 fu d_le xc i J) fu se (shd tr n (no - 1)) (shd fi n (no - 1)) (shd la n (no - 1)) (shd sh n (no - 1)) (shd ac n (no - 1)) (no - 1) u_se u_tr u_fi u_la u_sh u_ac u_no p_eh p_we p_hf ol' si' k1 k2 k3 k4 k5 k6 k7 lq ln lh (5 * n) = f_L_law_X385 fu d_le xc i J se (shd tr n (no - 1)) (shd fi n (no - 1)) (shd la n (no - 1)) (shd sh n (no - 1)) (shd ac n (no - 1)) (no - 1) u_se u_tr u_fi u_la u_sh u_ac u_no p_eh p_we p_hf ol' si' k1 k2 k3 k4 k5 k6 k7 lq p lh := e
  rw [e']
  unfold f_L_law_X385
  rw [jix_of (by omega) (by omega), jix_of (by omega) (by omega), hL.1.2.1]
  have hI2 := INV_shd hI n0 n1
  have hsm : SM (shd la n (no - 1)) (no - 1) := ⟨by omega, fun k k0 k1 => by
    rw [shd_at _ k1]
    exact hL.2.2.2.2 _ (by split <;> omega) (by split <;> omega)⟩
  refine hE _ _ _ _ _ _ _ _ _ _ _ _ _ _ _ _ _ _ _ _ _ _ _ _ _ _ _ _ _ ⟨⟨?_, uI_s _ _ _, fun k k0 k1 => ?_⟩, hI2, hL.2.2.1, hsm⟩ hH' hU
  · obtain ⟨q0, q1, q2, q3⟩ := hL.1.1
    refine ⟨?_, ?_, ?_, ?_⟩
    · rw [uI_n _ _ (by omega)]; exact q0
    · rw [uI_n _ _ (by omega)]; exact q1
    · rw [uI_n _ _ (by omega)]; exact q2
    · rw [uI_n _ _ (by omega)]; exact q3
  · rw [i2]
    by_cases c : n ≤ k
    · obtain ⟨r0, r1, r2, r3⟩ := lr4 (hL.1.2.2 (k + 1) (by omega) (by omega))
      rw [show 5 * (k + 1) = 5 * k + 5 by omega] at r0 r1 r2 r3
      refine lr4_of ?_ ?_ ?_ ?_
      · rw [if_pos (by omega), shd_at _ k1, shd_at _ k1, if_pos c]; exact r0
      · rw [if_pos (by omega), shd_at _ k1, if_pos c, show 5 * k + 1 + 5 = 5 * k + 5 + 1 by omega]; exact r1
      · rw [if_pos (by omega), shd_at _ k1, if_pos c, show 5 * k + 2 + 5 = 5 * k + 5 + 2 by omega]; exact r2
      · rw [if_pos (by omega), shd_at _ k1, if_pos c, show 5 * k + 3 + 5 = 5 * k + 5 + 3 by omega]; exact r3
    · obtain ⟨r0, r1, r2, r3⟩ := lr4 (hL.1.2.2 k k0 (by omega))
      refine lr4_of ?_ ?_ ?_ ?_
      · rw [if_neg (by omega), shd_at _ k1, shd_at _ k1, if_neg c]; exact r0
      · rw [if_neg (by omega), shd_at _ k1, if_neg c]; exact r1
      · rw [if_neg (by omega), shd_at _ k1, if_neg c]; exact r2
      · rw [if_neg (by omega), shd_at _ k1, if_neg c]; exact r3
theorem a_drop0 {J : JT} {n : Int} (hE : OKE (f_L_law_J1390 fu d_le xc i J)) (hL : LST lq ln se tr fi la sh ac no) (hH : HS ol si) (hU : AC u_ac) (h0 : no = 0) (hn : n = 0) (hf : 2000 ≤ fu) :
    ∃ r tr' fi' la' sh' ac' no' ol' si' k1 k2 k3 k4 k5 k6 k7, f_X4_drop fu se tr fi la sh ac no ol si k_se k_tr k_fi k_la k_sh k_ac k_no n = some (r, tr', fi', la', sh', ac', no', ol', si', k1, k2, k3, k4, k5, k6, k7) ∧ GD (f_L_law_J340 fu d_le xc se u_se u_tr u_fi u_la u_sh u_ac u_no p_eh p_we p_hf lq ln lh i n r tr' fi' la' sh' ac' no' ol' si' J k1 k2 k3 k4 k5 k6 k7 (-1)) := by
  subst h0
  subst hn
  refine ⟨_, _, _, _, _, _, _, _, _, _, _, _, _, _, _, _, ca_drop_0 hf, ?_⟩
  unfold f_L_law_J340
  rw [jck_of (by omega) (by omega) (by omega) (by omega), if_pos rfl, jix_of (by omega) (by omega), hL.1.2.1, jck_of (by omega) (by omega) (by omega) (by omega), if_pos (by omega)]
  exact hE _ _ _ _ _ _ _ _ _ _ _ _ _ _ _ _ _ _ _ _ _ _ _ _ _ _ _ _ _ hL hH hU
theorem sort_id (hL : LST lq ln se tr fi la sh ac no) (hf : 100 ≤ fu) : ∃ ln', f_L_sort fu lq ln = some ln' ∧ LST lq ln' se tr fi la sh ac no := by
  obtain ⟨hR, hI, hE, hM⟩ := hL
  obtain ⟨ln', e, h1, -⟩ := L_sortC (fu := fu) hR.2.1 hI hM.1 (fun j j0 j1 => ⟨j, j0, j1, hR.2.2 j j0 j1⟩) (fun j k j0 jk k1 => by
    have e1 : ln (5 * j) = (cR tr fi la sh ac j).1 := congrArg Prod.fst (hR.2.2 j j0 (by omega))
    have e2 : ln (5 * k) = (cR tr fi la sh ac k).1 := congrArg Prod.fst (hR.2.2 k (by omega) k1)
    have := key_lt hI j k j0 jk k1
    omega) hf
  exact ⟨ln', e, ⟨hR.1, hR.2.1, h1⟩, hI, hE, hM⟩
theorem a_L213 {a t b : Int} {K : Int → Int → Option OT} (hL : LST lq ln se tr fi la sh ac no) (a0 : 0 ≤ a) (a1 : a < 100) (t0 : 0 ≤ t) (t1 : t < 12) (hf : 100 ≤ fu) :
    f_L_law_L213 fu lq ln t a K fu b 0 0 = K b (fdA (fun k m => if 100 * fi k + tr k < 100 * a + t then m + 1 else m) 0 0 no) := by
  obtain ⟨hR, hI, hE, hM⟩ := hL
  have n0 := hI.1.1
  have n12 := hM.1
  obtain ⟨p, e, i1, i2⟩ := loop_upI (L := fun q (v : Int) x => f_L_law_L213 fu lq ln t a K q b v x) (fun v => K b v)
    (fun x v => 0 ≤ x ∧ v = fdA (fun k m => if 100 * fi k + tr k < 100 * a + t then m + 1 else m) 0 0 x) no
    (fun q v hI => by
      show f_L_law_L213_b fu lq ln t a _ _ b v no = _
      unfold f_L_law_L213_b
      rw [jix_of (by omega) (by omega), hR.2.1, jck_of (by omega) (by omega) (by omega) (by omega), if_pos (by omega)])
    (fun q v x hx hv => by
      obtain ⟨i1, i2⟩ := hv
      obtain ⟨a1', a2', a3', a4', a5', -, -⟩ := hI.1.2.2 x i1 hx
      obtain ⟨r0, r1, r2, r3⟩ := lr4 (hR.2.2 x i1 hx)
      refine ⟨fdA (fun k m => if 100 * fi k + tr k < 100 * a + t then m + 1 else m) 0 0 (x + 1), ?_, by omega, rfl⟩
      show f_L_law_L213_b fu lq ln t a _ _ b v x = _
      unfold f_L_law_L213_b
      rw [jix_of (by omega) (by omega), hR.2.1, jck_of (by omega) (by omega) (by omega) (by omega), if_neg (by omega), jix_of (by omega) (by omega), r0, jck_of (by omega) (by omega) (by omega) (by omega), fdA_s _ _ i1, ← i2]
      by_cases c : 100 * fi x + tr x < 100 * a + t
      · rw [if_neg (by omega), if_pos c]
      · rw [if_pos (by omega), if_neg c, Int.add_zero])
    no.toNat fu 0 0 (by omega) (by omega) ⟨by omega, (fdA_0 _ _ _).symm⟩
  have e' : f_L_law_L213 fu lq ln t a K fu b 0 0 = K b p := e
  rw [e', i2]
theorem cnt_place {a t p : Int} (hI : INV tr fi la sh ac no) (t0 : 0 ≤ t) (t1 : t < 12) (p0 : 0 ≤ p) (p1 : p ≤ no) (hlo : ∀ k, 0 ≤ k → k < p → kO tr fi k < 12 * a + t) (hhi : ∀ k, p ≤ k → k < no → 12 * a + t < kO tr fi k) : fdA (fun k (m : Int) => if 100 * fi k + tr k < 100 * a + t then m + 1 else m) 0 0 no = p := by
  have h := fdA_inv (f := fun k (m : Int) => if 100 * fi k + tr k < 100 * a + t then m + 1 else m) (s0 := 0) (a := 0) (i := no) (I := fun x m => x ≤ no → m = if x ≤ p then x else p) hI.1.1 (fun _ => by rw [if_pos p0]) (fun k m k0 k1 h _ => by
    have hm := h (by omega)
    obtain ⟨a1, a2, -⟩ := hI.1.2.2 k k0 k1
    by_cases c : k < p
    · have := hlo k k0 c
      unfold kO at this
      rw [if_pos (by omega)] at hm ⊢
      rw [if_pos (by omega), hm]
    · have := hhi k (by omega) k1
      unfold kO at this
      rw [if_neg (by omega)]
      split <;> split at hm <;> omega)
  rw [h (Int.le_refl _)]
  split <;> omega
end Q77
