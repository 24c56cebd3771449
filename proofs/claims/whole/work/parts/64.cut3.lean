/-! cut side by side -/
section Q64
variable {fu : Nat} {st se tr fi la sh ac hsf mv u_se u_tr u_fi u_la u_sh u_ac : Int → Int} {no rc ol si u_no : Int} {k_se k_tr k_fi k_la k_sh k_ac : Int → Int → Int} {k_no : Int → Int}
theorem op_cut {x1 x2 : Int} (h1 : rg x1) (h2 : rg x2) (hS : RSt st se tr fi la sh ac no) (hH : HRt rc hsf ol si k_se k_tr k_fi k_la k_sh k_ac k_no) (hAu : AC u_ac) (hf : 2000 ≤ fu) :
    ∃ r se' tr' fi' la' sh' ac' no' u_se' u_tr' u_fi' u_la' u_sh' u_ac' u_no' ol' si' k_se' k_tr' k_fi' k_la' k_sh' k_ac' k_no' rc' mv' st' hsf', f_X4_cut fu se tr fi la sh ac no u_se u_tr u_fi u_la u_sh u_ac u_no ol si k_se k_tr k_fi k_la k_sh k_ac k_no x1 x2 = some (r, se', tr', fi', la', sh', ac', no', u_se', u_tr', u_fi', u_la', u_sh', u_ac', u_no', ol', si', k_se', k_tr', k_fi', k_la', k_sh', k_ac', k_no') ∧ f_X5_cut fu rc mv st hsf x1 x2 = some (r, rc', mv', st', hsf') ∧ RSt st' se' tr' fi' la' sh' ac' no' ∧ HRt rc' hsf' ol' si' k_se' k_tr' k_fi' k_la' k_sh' k_ac' k_no' ∧ AC u_ac' := by
  have a1 := h1.1
  have a2 := h1.2
  have b1 := h2.1
  have b2 := h2.2
  have hI := hS.inv
  have hN := hI.1
  have hE := hS.2.2.1
  have hR := hS.1
  have n0 := hN.1
  have n1 := hN.2.1
  unfold f_X4_cut f_X5_cut
  by_cases c : 0 ≤ x1 ∧ x1 < 100
  · obtain ⟨c1, c2⟩ := c
    rw [q_isStep_t c1 c2, jb_s, m_isStep_t c1 c2, jb_s, jck_of (by omega) (by omega) (by omega) (by omega), if_neg (show ¬ (1 : Int) = 0 by omega), jck_of (by omega) (by omega) (by omega) (by omega), if_neg (show ¬ (1 : Int) = 0 by omega)]
    by_cases d : 1 ≤ x2 ∧ x2 ≤ 100 - x1
    · obtain ⟨d1, d2⟩ := d
      have z0 := cN_0 fi la x1 x2
      have hcn := cN_le fi la x1 x2 (i := 0) (j := no) (by omega) (by omega)
      obtain ⟨rc', hsf', ol', si', k1, k2, k3, k4, k5, k6, k7, r1, r2, hH'⟩ := op_record (fu := fu) hS hH hf
      have hR0 : RLm st se tr fi la sh ac (no - 1 + 1 + (cN fi la x1 x2 no - cN fi la x1 x2 (no - 1 + 1))) := by
        rw [show no - 1 + 1 = no by omega, show no + (cN fi la x1 x2 no - cN fi la x1 x2 no) = no by omega]
        exact hR
      obtain ⟨s', T', F', L', S', A', f1, f2, f3⟩ := m_press (fu := fu) (rc := rc') (hsf := hsf') (mv := mv) (k := f_X5_cut_X113 fu) hN c1 c2 d1 (by omega) (by omega) no.toNat fu (no - 1) st tr fi la sh ac (by omega) (by omega) (by omega) hR0 (fun q q0 q1 => ⟨rfl, rfl, rfl, rfl, rfl⟩) (fun j j0 j1 hj => by omega)
      rw [show no - (no - 1 + 1) - (cN fi la x1 x2 no - cN fi la x1 x2 (no - 1 + 1)) = 0 by rw [show no - 1 + 1 = no by omega]; omega] at f1
      obtain ⟨p0, p4, p5⟩ := f2
      have hR1 : RLm (uI s' 4 0) se u_tr u_fi u_la u_sh u_ac (cN fi la x1 x2 0) := by
        rw [z0]
        refine ⟨?_, uI_s _ _ _, fun k k0 k1 => by omega⟩
        simp (disch := omega) only [uI_n]
        exact p0
      have hU : INV u_tr u_fi u_la u_sh u_ac (cN fi la x1 x2 0) := by
        rw [z0]
        exact ⟨⟨by omega, by omega, fun k k0 k1 => by omega⟩, hAu, fun j k j0 jk k1 => by omega, fun j k j0 jk k1 => by omega⟩
      obtain ⟨utr', ufi', ula', ush', uac', stf', mv', g1, g2, g3, g4⟩ := l_cut (fu := fu) (x1 := x1) (x2 := x2) (se := se) hI c1 c2 d1 (by omega) (by omega) no.toNat fu fu 0 u_tr u_fi u_la u_sh u_ac (uI s' 4 0) mv (by omega) (by omega) (by omega) (by omega) hR1 hU (fun j j0 j1 hj => by
        have hc0 := cN_le fi la x1 x2 (i := 0) (j := j) (by omega) (by omega)
        have hc1 := cN_le fi la x1 x2 (i := j + 1) (j := no) (by omega) (by omega)
        have hsj := cN_s fi la x1 x2 (i := j) j0
        rw [if_pos hj] at hsj
        obtain ⟨t0, t1, t2, t3, t4⟩ := p5 (cN fi la x1 x2 j) (by omega) (by omega)
        obtain ⟨y0, y1, y2, y3, y4⟩ := f3 j j0 j1 hj
        rw [uI_n _ _ (by omega), uI_n _ _ (by omega), uI_n _ _ (by omega), uI_n _ _ (by omega), uI_n _ _ (by omega)]
        exact ⟨t0.trans y0, t1.trans y1, t2.trans y2, t3.trans y3, t4.trans y4⟩) (fun q q0 q1 => by omega)
      rw [z0] at g1 g2
      rw [q_isIn_t d1 d2 (by omega) (by omega), jb_s, m_in_t d1 d2 (by omega) (by omega), jb_s, jck_of (by omega) (by omega) (by omega) (by omega), if_pos (show (1 : Int) ≠ 0 by omega), jck_of (by omega) (by omega) (by omega) (by omega), if_pos (show (1 : Int) ≠ 0 by omega), q_size, jb_s, r1, jb9_s]
      unfold f_X3_takeSettings f_X3_takeCut
      rw [jb_s, g1, jb6_s, q_become g4.2.1 (by omega), jb7_s, q_size, jb_s, r2, jb2_s, jix_of (by omega) (by omega), hR.n4, f1]
      unfold f_X5_cut_X113 f_X5_putInOrder
      rw [jix_of (by omega) (by omega), jix_of (by omega) (by omega), p4, g2, jb2_s]
      refine ⟨_, _, _, _, _, _, _, _, _, _, _, _, _, _, _, _, _, _, _, _, _, _, _, _, _, _, _, _, rfl, rfl, RSt_ext (RSt_of g3 hE g4) (EQn_rf _ _) (fun x x0 x1 => ?_) (EQn_cpy _ _ _) (EQn_cpy _ _ _) (EQn_cpy _ _ _) (EQn_cpy _ _ _) (EQn_cpy _ _ _), hH', g4.2.1⟩
      rw [jcpy_in _ _ x0 x1, jcpy_in _ _ x0 x1]
    · rw [q_isIn_f (by omega) b1 b2 (by omega) (by omega) (by omega) (by omega), jb_s, m_in_f (by omega) b1 b2 (by omega) (by omega) (by omega) (by omega), jb_s, jck_of (by omega) (by omega) (by omega) (by omega), if_neg (show ¬ (0 : Int) ≠ 0 by omega), jck_of (by omega) (by omega) (by omega) (by omega), if_neg (show ¬ (0 : Int) ≠ 0 by omega)]
      exact ⟨_, _, _, _, _, _, _, _, _, _, _, _, _, _, _, _, _, _, _, _, _, _, _, _, _, _, _, _, rfl, rfl, hS, hH, hAu⟩
  · rw [q_isStep_f (by omega) a1 a2, jb_s, m_isStep_f (by omega) a1 a2, jb_s, jck_of (by omega) (by omega) (by omega) (by omega), if_pos (show (0 : Int) = 0 from rfl), jck_of (by omega) (by omega) (by omega) (by omega), if_pos (show (0 : Int) = 0 from rfl)]
    exact ⟨_, _, _, _, _, _, _, _, _, _, _, _, _, _, _, _, _, _, _, _, _, _, _, _, _, _, _, _, rfl, rfl, hS, hH, hAu⟩
theorem op_wipe {d_le : Int} : ∃ r, f_X4_wipe fu d_le = some (r, 0) ∧ f_X5_wipe fu d_le = some (r, 0) := ⟨_, rfl, rfl⟩
end Q64
