/-! cut: the survivors in order -/
section Q63
variable {fu : Nat} {st se tr fi la sh ac hsf mv u_se u_tr u_fi u_la u_sh u_ac : Int → Int} {no rc ol si u_no : Int} {k_se k_tr k_fi k_la k_sh k_ac : Int → Int → Int} {k_no : Int → Int}
theorem m_mv5 {v5 v6 : Int} {j : (Int → Int) → (Int → Int) → Int → Int → Option ((Int → Int) × (Int → Int))} (h0 : 0 ≤ v6) (h1 : v6 < 40) (hf : 100 ≤ fu) :
    ∃ mv', f_X5_putInOrder_L23 fu v6 (f_X5_putInOrder_X46 fu v5 v6 j) fu mv st 0 = f_X5_putInOrder_X46 fu v5 v6 j mv' st ∧ ∀ q, 0 ≤ q → q < 5 → mv' q = st (5 + 5 * v6 + q) := by
  obtain ⟨p, e, i1, i2⟩ := loop_upI (L := fun q (s : Int → Int) i => f_X5_putInOrder_L23 fu v6 (f_X5_putInOrder_X46 fu v5 v6 j) q s st i) (fun s => f_X5_putInOrder_X46 fu v5 v6 j s st)
    (fun i s => 0 ≤ i ∧ ∀ q, 0 ≤ q → q < i → s q = st (5 + 5 * v6 + q)) 5
    (fun q s hI => by
      show f_X5_putInOrder_L23_b fu v6 _ _ s st 5 = _
      unfold f_X5_putInOrder_L23_b
      rw [jck_of (by omega) (by omega) (by omega) (by omega), if_pos (by omega)])
    (fun q s i hi hI => by
      obtain ⟨i1, i2⟩ := hI
      refine ⟨uI s i (st (5 + 5 * v6 + i)), ?_, by omega, fun x x0 x1 => ?_⟩
      · show f_X5_putInOrder_L23_b fu v6 _ _ s st i = _
        unfold f_X5_putInOrder_L23_b
        rw [jck_of (by omega) (by omega) (by omega) (by omega), if_neg (by omega), m_part h0 h1 i1 hi, jb_s, jix_of (by omega) (by omega)]
      · by_cases d : x = i
        · rw [d, uI_s]
        · rw [uI_n _ _ d]; exact i2 x x0 (by omega))
    5 fu mv 0 (by omega) (by omega) ⟨by omega, fun q h1 h2 => by omega⟩
  exact ⟨p, e, i2⟩
theorem l_cut {x1 x2 : Int} (hI : INV tr fi la sh ac no) (h2 : 0 ≤ x1) (h3 : x1 < 100) (h4 : 1 ≤ x2) (h5 : x2 ≤ 100) (hf : 1000 ≤ fu) :
    ∀ (n fA fB : Nat) (i : Int) (utr ufi ula ush uac stf mv : Int → Int), i + n = no → n < fA → n < fB → 0 ≤ i → RLm stf se utr ufi ula ush uac (cN fi la x1 x2 i) → INV utr ufi ula ush uac (cN fi la x1 x2 i) → (∀ j, i ≤ j → j < no → cF x1 x2 (fi j) ≤ cL x1 x2 (la j) → stf (5 + 5 * cN fi la x1 x2 j + 0) = tr j ∧ stf (5 + 5 * cN fi la x1 x2 j + 1) = cF x1 x2 (fi j) ∧ stf (5 + 5 * cN fi la x1 x2 j + 2) = cL x1 x2 (la j) ∧ stf (5 + 5 * cN fi la x1 x2 j + 3) = sh j ∧ stf (5 + 5 * cN fi la x1 x2 j + 4) = ac j) → (∀ q, 0 ≤ q → q < cN fi la x1 x2 i → ∃ j, 0 ≤ j ∧ j < i ∧ utr q = tr j ∧ ufi q = cF x1 x2 (fi j) ∧ ula q = cL x1 x2 (la j)) →
      ∃ utr' ufi' ula' ush' uac' stf' mv', f_X3_takeCut_L13 fu tr fi la sh ac no x1 x2 (f_X3_takeCut_X130 fu) fA utr ufi ula ush uac (cN fi la x1 x2 i) (x1 + x2) i = some (utr', ufi', ula', ush', uac', cN fi la x1 x2 no) ∧ f_X5_putInOrder_L16 fu (f_X5_putInOrder_X87 fu) fB mv stf (cN fi la x1 x2 no) (cN fi la x1 x2 i) = some (mv', stf') ∧ RLm stf' se utr' ufi' ula' ush' uac' (cN fi la x1 x2 no) ∧ INV utr' ufi' ula' ush' uac' (cN fi la x1 x2 no) := by
  have hN := hI.1
  have n0 := hN.1
  have n1 := hN.2.1
  have z0 := cN_0 fi la x1 x2
  intro n
  induction n with
  | zero =>
    intro fA fB i utr ufi ula ush uac stf mv e1 e2 e3 i0 hR hU hhi hmem
    obtain ⟨q, rfl⟩ : ∃ q, fA = q + 1 := ⟨fA - 1, by omega⟩
    obtain ⟨q', rfl⟩ : ∃ q, fB = q + 1 := ⟨fB - 1, by omega⟩
    have e : i = no := by omega
    subst e
    have hc := cN_le fi la x1 x2 (i := 0) (j := i) (by omega) (by omega)
    refine ⟨utr, ufi, ula, ush, uac, stf, mv, ?_, ?_, hR, hU⟩
    · show f_X3_takeCut_L13_b fu tr fi la sh ac i x1 x2 _ _ utr ufi ula ush uac _ (x1 + x2) i = _
      unfold f_X3_takeCut_L13_b
      rw [q_size, jb_s, jck_of (by omega) (by omega) (by omega) (by omega), if_pos (by omega)]; rfl
    · show f_X5_putInOrder_L16_b fu _ _ mv stf _ _ = _
      unfold f_X5_putInOrder_L16_b
      rw [jck_of (by omega) (by omega) (by omega) (by omega), if_pos (by omega)]; rfl
  | succ n ih =>
    intro fA fB i utr ufi ula ush uac stf mv e1 e2 e3 i0 hR hU hhi hmem
    obtain ⟨q, rfl⟩ : ∃ q, fA = q + 1 := ⟨fA - 1, by omega⟩
    have hi : i < no := by omega
    obtain ⟨a1, a2, a3, a4, a5, a6, a7⟩ := hN.2.2 i i0 hi
    have hb := cFL_in (x1 := x1) (x2 := x2) a3 a4 a5 h2 h4
    have hs := cN_s fi la x1 x2 i0
    have hc0 := cN_le fi la x1 x2 (i := 0) (j := i) (by omega) (by omega)
    have hc1 := cN_le fi la x1 x2 (i := i + 1) (j := no) (by omega) (by omega)
    have ex : f_X3_takeCut_L13 fu tr fi la sh ac no x1 x2 (f_X3_takeCut_X130 fu) (q + 1) utr ufi ula ush uac (cN fi la x1 x2 i) (x1 + x2) i = f_X3_takeCut_L13_b fu tr fi la sh ac no x1 x2 (f_X3_takeCut_X130 fu) (f_X3_takeCut_L13 fu tr fi la sh ac no x1 x2 (f_X3_takeCut_X130 fu) q) utr ufi ula ush uac (cN fi la x1 x2 i) (x1 + x2) i := rfl
    rw [ex]
    by_cases c : cF x1 x2 (fi i) ≤ cL x1 x2 (la i)
    · rw [if_pos c] at hs
      obtain ⟨q', rfl⟩ : ∃ q, fB = q + 1 := ⟨fB - 1, by omega⟩
      obtain ⟨g0, g1, g2, g3, g4⟩ := hhi i (by omega) hi c
      have hac := hI.2.1 i i0 (by omega)
      have hfree : ∀ y, 0 ≤ y → y < cN fi la x1 x2 i → ¬ (utr y = tr i ∧ ufi y ≤ cL x1 x2 (la i) ∧ cF x1 x2 (fi i) ≤ ula y) := by
        intro y y0 y1 hy
        obtain ⟨j, j0, j1, m1, m2, m3⟩ := hmem y y0 y1
        have hd := hI.2.2.2 j i j0 j1 hi (by omega)
        have := cLF (x1 := x1) (x2 := x2) hd h4
        omega
      obtain ⟨p, ep, p0, p1, plo, phi⟩ := q_add (fu := fu) (t := tr i) (a := cF x1 x2 (fi i)) (b := cL x1 x2 (la i)) (s_ := sh i) (x := ac i) hU.1 hU.2.2.1 hU.2.1 (by omega) a1 a2 hb.1 hb.2.1 hac (by omega)
      have phi' := free_lt hU a1 a2 hb.1 c hfree p0 phi
      obtain ⟨st', est, hR', hkeep⟩ := m_putIn (fu := fu) (t := tr i) (a := cF x1 x2 (fi i)) (b := cL x1 x2 (la i)) (s_ := sh i) (x := ac i) hR hU.1 (by omega) a1 a2 hb.1 hb.2.1 p0 p1 plo phi' (by omega)
      have hU' := INV_ins (s_ := sh i) (x := ac i) hU (by omega) a1 a2 hb.1 c hb.2.2.2.1 a6 a7 hac hfree p0 p1 plo phi'
      rw [← hs] at hR' hU'
      obtain ⟨mv', emv, hmv⟩ := m_mv5 (fu := fu) (st := stf) (mv := mv) (v5 := cN fi la x1 x2 no) (v6 := cN fi la x1 x2 i) (j := f_X5_putInOrder_L16 fu (f_X5_putInOrder_X87 fu) q') (by omega) (by omega) (by omega)
      obtain ⟨utr', ufi', ula', ush', uac', stf', mv'', f1, f2, f3, f4⟩ := ih q q' (i + 1) _ _ _ _ _ st' mv' (by omega) (by omega) (by omega) (by omega) hR' hU' (fun j j0 j1 hj => by
        have hcj := cN_le fi la x1 x2 (i := i + 1) (j := j) (by omega) (by omega)
        rw [hkeep _ (by omega), hkeep _ (by omega), hkeep _ (by omega), hkeep _ (by omega), hkeep _ (by omega)]
        exact hhi j (by omega) j1 hj) (fun y y0 y1 => by
        rw [hs] at y1
        rcases ins_mem (tr := utr) (fi := ufi) (la := ula) (p := p) (t := tr i) (a := cF x1 x2 (fi i)) (b := cL x1 x2 (la i)) y0 y1 p0 p1 with ⟨m1, m2, m3⟩ | ⟨y', w0, w1, m1, m2, m3⟩
        · exact ⟨i, i0, by omega, m1, m2, m3⟩
        · obtain ⟨j, j0, j1, t1, t2, t3⟩ := hmem y' w0 w1
          exact ⟨j, j0, by omega, m1.trans t1, m2.trans t2, m3.trans t3⟩)
      refine ⟨utr', ufi', ula', ush', uac', stf', mv'', ?_, ?_, f3, f4⟩
      · have hcl : ∀ v19, v19 = cL x1 x2 (la i) → f_X3_takeCut_J95 fu tr sh ac no utr ufi ula ush uac (cN fi la x1 x2 i) (x1 + x2) i (cF x1 x2 (fi i)) (f_X3_takeCut_L13 fu tr fi la sh ac no x1 x2 (f_X3_takeCut_X130 fu) q) v19 = some (utr', ufi', ula', ush', uac', cN fi la x1 x2 no) := by
          intro v19 hv
          unfold f_X3_takeCut_J95
          rw [q_trackOf i0 hi n1, jb_s, q_shiftOf i0 hi n1, jb_s, q_hasAccent hI.2.1 i0 hi n1, jb_s, hv, ep, jb7_s, ← hs]
          exact f1
        have h71 : f_X3_takeCut_J71 fu tr sh ac no x1 x2 utr ufi ula ush uac (cN fi la x1 x2 i) (x1 + x2) i (la i) (f_X3_takeCut_L13 fu tr fi la sh ac no x1 x2 (f_X3_takeCut_X130 fu) q) (cF x1 x2 (fi i)) = some (utr', ufi', ula', ush', uac', cN fi la x1 x2 no) := by
          unfold f_X3_takeCut_J71
          rw [jck_of (by omega) (by omega) (by omega) (by omega)]
          by_cases d : x1 + x2 ≤ la i
          · rw [if_pos d]
            exact hcl _ (by unfold cL; rw [if_pos (by omega), if_pos d])
          · rw [if_neg d, jck_of (by omega) (by omega) (by omega) (by omega)]
            refine hcl _ ?_
            unfold cL jmin
            by_cases y : x1 ≤ la i
            · rw [if_pos (by omega), if_pos y, if_neg d]
            · rw [if_neg (by omega), if_neg y]
        have h51 : f_X3_takeCut_J51 fu tr sh ac no x1 x2 utr ufi ula ush uac (cN fi la x1 x2 i) (x1 + x2) i (fi i) (la i) (f_X3_takeCut_L13 fu tr fi la sh ac no x1 x2 (f_X3_takeCut_X130 fu) q) = some (utr', ufi', ula', ush', uac', cN fi la x1 x2 no) := by
          unfold f_X3_takeCut_J51
          rw [jck_of (by omega) (by omega) (by omega) (by omega)]
          by_cases d : x1 ≤ fi i
          · rw [if_pos d, jck_of (by omega) (by omega) (by omega) (by omega)]
            have : jmax (fi i) (x1 + x2) - x2 = cF x1 x2 (fi i) := by
              unfold jmax cF
              rw [if_pos d]
              by_cases y : x1 + x2 ≤ fi i
              · rw [if_neg (by omega), if_pos y]
              · rw [if_pos (by omega), if_neg y]; omega
            rw [this]
            exact h71
          · rw [if_neg d]
            have : fi i = cF x1 x2 (fi i) := by unfold cF; rw [if_neg d]
            rw [← this] at h71
            exact h71
        unfold f_X3_takeCut_L13_b
        rw [q_size, jb_s, jck_of (by omega) (by omega) (by omega) (by omega), if_neg (by omega), q_firstOf i0 hi n1, jb_s, q_lastOf i0 hi n1, jb_s, jck_of (by omega) (by omega) (by omega) (by omega)]
        by_cases d : fi i < x1
        · rw [if_pos d]; exact h51
        · rw [if_neg d, jck_of (by omega) (by omega) (by omega) (by omega), if_neg (by omega)]; exact h51
      · show f_X5_putInOrder_L16_b fu _ _ mv stf _ _ = _
        unfold f_X5_putInOrder_L16_b
        rw [jck_of (by omega) (by omega) (by omega) (by omega), if_neg (by omega), emv]
        unfold f_X5_putInOrder_X46
        rw [hmv 0 (by omega) (by omega), hmv 1 (by omega) (by omega), hmv 2 (by omega) (by omega), hmv 3 (by omega) (by omega), hmv 4 (by omega) (by omega), g0, g1, g2, g3, g4, jix_of (by omega) (by omega), jix_of (by omega) (by omega), jix_of (by omega) (by omega), jix_of (by omega) (by omega), jix_of (by omega) (by omega), est, jb2_s, ← hs]
        exact f2
    · rw [if_neg c] at hs
      have hdrop : x1 ≤ fi i ∧ la i < x1 + x2 := by
        by_cases y : x1 ≤ fi i ∧ la i < x1 + x2
        · exact y
        · exact absurd (hb.2.2.2.2.mpr y) c
      rw [← hs] at hR hU
      obtain ⟨utr', ufi', ula', ush', uac', stf', mv'', f1, f2, f3, f4⟩ := ih q fB (i + 1) utr ufi ula ush uac stf mv (by omega) (by omega) (by omega) (by omega) hR hU (fun j j0 j1 hj => hhi j (by omega) j1 hj) (fun y y0 y1 => by
        rw [hs] at y1
        obtain ⟨j, j0, j1, t⟩ := hmem y y0 y1
        exact ⟨j, j0, by omega, t⟩)
      rw [hs] at f1 f2
      refine ⟨utr', ufi', ula', ush', uac', stf', mv'', ?_, f2, f3, f4⟩
      unfold f_X3_takeCut_L13_b
      rw [q_size, jb_s, jck_of (by omega) (by omega) (by omega) (by omega), if_neg (by omega), q_firstOf i0 hi n1, jb_s, q_lastOf i0 hi n1, jb_s, jck_of (by omega) (by omega) (by omega) (by omega), if_neg (by omega), jck_of (by omega) (by omega) (by omega) (by omega), if_pos hdrop.2]
      exact f1
end Q63
