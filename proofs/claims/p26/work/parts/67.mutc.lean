/-! copy and cut of our side, alone -/
section Q67
variable {fu : Nat} {se tr fi la sh ac u_se u_tr u_fi u_la u_sh u_ac : Int → Int} {no u_no ol si : Int} {k_se k_tr k_fi k_la k_sh k_ac : Int → Int → Int} {k_no : Int → Int}
theorem ca_pass {a b : Int} (a0 : 0 ≤ a) (a1 : a < 100) (b0 : 0 ≤ b) (b1 : b < 100) (ab : a ≤ b) : f_X4_isPassage fu a b = some 1 := by
  unfold f_X4_isPassage
  rw [q_isStep_t a0 a1, jb_s, jck_of (by omega) (by omega) (by omega) (by omega), if_neg (show ¬ (1 : Int) = 0 by omega), q_isStep_t b0 b1, jb_s, jck_of (by omega) (by omega) (by omega) (by omega), if_neg (show ¬ (1 : Int) = 0 by omega), jck_of (by omega) (by omega) (by omega) (by omega), if_neg (by omega), jbo_of (by omega)]
theorem lc_copy {a b g : Int} (hI : INV tr fi la sh ac no) (a0 : 0 ≤ a) (b1 : b < 100) (g0 : 0 ≤ g) (g1 : g < 100) (hab : a ≤ b) (hFR : FRa tr fi la no a b (g - a)) (hmax : no + fdA (sWit fi la a b) 0 0 no ≤ 40) (hf : 1000 ≤ fu) :
    ∀ (n fuel : Nat) (i : Int) (utr ufi ula ush uac : Int → Int) (uno : Int), i + n = no → n < fuel → 0 ≤ i → INV utr ufi ula ush uac uno → uno = no + fdA (sWit fi la a b) 0 0 i → (∀ q, 0 ≤ q → q < uno → (∃ j, 0 ≤ j ∧ j < no ∧ utr q = tr j ∧ ufi q = fi j ∧ ula q = la j) ∨ (∃ j, 0 ≤ j ∧ j < i ∧ utr q = tr j ∧ ufi q = fi j + (g - a) ∧ ula q = la j + (g - a))) → (∀ j, 0 ≤ j → j < no → ∃ q, 0 ≤ q ∧ q < uno ∧ cR utr ufi ula ush uac q = cR tr fi la sh ac j) → (∀ j, 0 ≤ j → j < i → a ≤ fi j → la j ≤ b → ∃ q, 0 ≤ q ∧ q < uno ∧ cR utr ufi ula ush uac q = (100 * (fi j + (g - a)) + tr j, la j + (g - a), sh j, ac j)) →
      ∃ utr' ufi' ula' ush' uac' uno', f_X3_addPassage_L3 fu tr fi la sh ac no a b g (f_X3_addPassage_X82 fu) fuel utr ufi ula ush uac uno i = some (utr', ufi', ula', ush', uac', uno') ∧ INV utr' ufi' ula' ush' uac' uno' ∧ uno' = no + fdA (sWit fi la a b) 0 0 no ∧ (∀ j, 0 ≤ j → j < no → ∃ q, 0 ≤ q ∧ q < uno' ∧ cR utr' ufi' ula' ush' uac' q = cR tr fi la sh ac j) ∧ (∀ j, 0 ≤ j → j < no → a ≤ fi j → la j ≤ b → ∃ q, 0 ≤ q ∧ q < uno' ∧ cR utr' ufi' ula' ush' uac' q = (100 * (fi j + (g - a)) + tr j, la j + (g - a), sh j, ac j)) := by
  have hN := hI.1
  have n0 := hN.1
  have n1 := hN.2.1
  intro n
  induction n with
  | zero =>
    intro fuel i utr ufi ula ush uac uno h1 h2 h3 h5 h6 h7 h8 h9
    obtain ⟨q, rfl⟩ : ∃ q, fuel = q + 1 := ⟨fuel - 1, by omega⟩
    have e : i = no := by omega
    subst e
    refine ⟨utr, ufi, ula, ush, uac, uno, ?_, h5, h6, h8, h9⟩
    show f_X3_addPassage_L3_b fu tr fi la sh ac i a b g _ _ utr ufi ula ush uac uno i = _
    unfold f_X3_addPassage_L3_b
    rw [q_size, jb_s, jck_of (by omega) (by omega) (by omega) (by omega), if_pos (by omega)]; rfl
  | succ n ih =>
    intro fuel i utr ufi ula ush uac uno h1 h2 h3 h5 h6 h7 h8 h9
    obtain ⟨q, rfl⟩ : ∃ q, fuel = q + 1 := ⟨fuel - 1, by omega⟩
    have hi : i < no := by omega
    obtain ⟨a1', a2', a3', a4', a5', a6', a7'⟩ := hN.2.2 i h3 hi
    have ex1 : f_X3_addPassage_L3 fu tr fi la sh ac no a b g (f_X3_addPassage_X82 fu) (q + 1) utr ufi ula ush uac uno i = f_X3_addPassage_L3_b fu tr fi la sh ac no a b g (f_X3_addPassage_X82 fu) (f_X3_addPassage_L3 fu tr fi la sh ac no a b g (f_X3_addPassage_X82 fu) q) utr ufi ula ush uac uno i := rfl
    rw [ex1]
    have es := fdA_s (sWit fi la a b) 0 h3
    have ew : sWit fi la a b i (fdA (sWit fi la a b) 0 0 i) = if a ≤ fi i ∧ la i ≤ b then fdA (sWit fi la a b) 0 0 i + 1 else fdA (sWit fi la a b) 0 0 i := rfl
    rw [ew] at es
    unfold f_X3_addPassage_L3_b
    rw [q_size, jb_s, jck_of (by omega) (by omega) (by omega) (by omega), if_neg (by omega), q_liesWithin hN h3 hi (by omega) (by omega) (by omega) (by omega), jb_s]
    by_cases w : a ≤ fi i ∧ la i ≤ b
    · rw [if_pos w] at es
      have hmono := wit_mono fi la a b (no - (i + 1)).toNat (i + 1) (by omega)
      rw [show i + 1 + ((no - (i + 1)).toNat : Int) = no by omega] at hmono
      have hfr := hFR i h3 hi w
      have hfree : ∀ y, 0 ≤ y → y < uno → ¬ (utr y = tr i ∧ ufi y ≤ la i + (g - a) ∧ fi i + (g - a) ≤ ula y) := by
        intro y y0 y1 hy
        rcases h7 y y0 y1 with ⟨j, j0, j1, t1, t2, t3⟩ | ⟨j, j0, j1, t1, t2, t3⟩
        · exact hfr.2 ⟨j, j0, j1, by omega, by omega, by omega⟩
        · have := hI.2.2.2 j i j0 j1 hi (by omega)
          omega
      obtain ⟨p, ep, p0, p1, plo, phi⟩ := q_add (fu := fu) (t := tr i) (a := fi i + (g - a)) (b := la i + (g - a)) (s_ := sh i) (x := ac i) h5.1 h5.2.2.1 h5.2.1 (by omega) a1' a2' (by omega) (by omega) (hI.2.1 i h3 (by omega)) (by omega)
      have phi' := free_lt h5 a1' a2' (by omega) (by omega) hfree p0 phi
      have hI' := INV_ins (s_ := sh i) (x := ac i) h5 (by omega) a1' a2' (by omega) (by omega) hfr.1 a6' a7' (hI.2.1 i h3 (by omega)) hfree p0 p1 plo phi'
      have keep : ∀ (v : Int × Int × Int × Int), (∃ q, 0 ≤ q ∧ q < uno ∧ cR utr ufi ula ush uac q = v) → ∃ q, 0 ≤ q ∧ q < uno + 1 ∧ cR (ins utr p (tr i) uno) (ins ufi p (fi i + (g - a)) uno) (ins ula p (la i + (g - a)) uno) (ins ush p (sh i) uno) (ins uac p (ac i) uno) q = v := by
        intro v ⟨y, y0, y1, y2⟩
        obtain ⟨y', z0, z1, z2⟩ := ins_old y0 y1 p0
        refine ⟨y', z0, z1, ?_⟩
        rw [← y2]
        unfold cR
        rw [z2, z2, z2, z2, z2]
      obtain ⟨utr', ufi', ula', ush', uac', uno', e1, e4, e5, e6, e7⟩ := ih q (i + 1) _ _ _ _ _ (uno + 1) (by omega) (by omega) (by omega) hI' (by omega) (fun y y0 y1 => by
        rcases ins_mem (tr := utr) (fi := ufi) (la := ula) (p := p) (t := tr i) (a := fi i + (g - a)) (b := la i + (g - a)) y0 y1 p0 p1 with ⟨m1, m2, m3⟩ | ⟨y', z0, z1, m1, m2, m3⟩
        · exact Or.inr ⟨i, h3, by omega, m1, m2, m3⟩
        · rcases h7 y' z0 z1 with ⟨j, j0, j1, t1, t2, t3⟩ | ⟨j, j0, j1, t1, t2, t3⟩
          · exact Or.inl ⟨j, j0, j1, m1.trans t1, m2.trans t2, m3.trans t3⟩
          · exact Or.inr ⟨j, j0, by omega, m1.trans t1, m2.trans t2, m3.trans t3⟩) (fun j j0 j1 => keep _ (h8 j j0 j1)) (fun j j0 j1 j2 j3 => by
        by_cases hj : j = i
        · subst hj
          refine ⟨p, p0, by omega, ?_⟩
          unfold cR
          rw [ins_eq, ins_eq, ins_eq, ins_eq, ins_eq]
        · exact keep _ (h9 j j0 (by omega) j2 j3))
      refine ⟨utr', ufi', ula', ush', uac', uno', ?_, e4, e5, e6, e7⟩
      rw [if_pos w, jck_of (by omega) (by omega) (by omega) (by omega), if_neg (show ¬ (1 : Int) = 0 by omega), q_firstOf h3 hi n1, jb_s, q_lastOf h3 hi n1, jb_s, q_trackOf h3 hi n1, jb_s, q_shiftOf h3 hi n1, jb_s, q_hasAccent hI.2.1 h3 hi n1, jb_s, show fi i - a + g = fi i + (g - a) by omega, show la i - a + g = la i + (g - a) by omega, ep, jb7_s]
      exact e1
    · rw [if_neg w] at es
      obtain ⟨utr', ufi', ula', ush', uac', uno', e1, e4, e5, e6, e7⟩ := ih q (i + 1) utr ufi ula ush uac uno (by omega) (by omega) (by omega) h5 (by omega) (fun y y0 y1 => by
        rcases h7 y y0 y1 with h | ⟨j, j0, j1, t1⟩
        · exact Or.inl h
        · exact Or.inr ⟨j, j0, by omega, t1⟩) h8 (fun j j0 j1 j2 j3 => h9 j j0 (by
          by_cases hj : j = i
          · subst hj; exact absurd ⟨j2, j3⟩ w
          · omega) j2 j3)
      refine ⟨utr', ufi', ula', ush', uac', uno', ?_, e4, e5, e6, e7⟩
      rw [if_neg w, jck_of (by omega) (by omega) (by omega) (by omega), if_pos (show (0 : Int) = 0 from rfl)]
      exact e1
theorem ca_copy_n {x1 x2 x3 : Int} (hI : INV tr fi la sh ac no) (a0 : 0 ≤ x1) (a1 : x1 < 100) (b0 : 0 ≤ x2) (b1 : x2 < 100) (ab : x1 ≤ x2) (g0 : 0 ≤ x3) (g1 : x3 < 100) (e : no + fdA (sWit fi la x1 x2) 0 0 no ≤ 40) (f : ¬ FRa tr fi la no x1 x2 (x3 - x1)) (hf : 2000 ≤ fu) :
    f_X4_copy fu se tr fi la sh ac no u_se u_tr u_fi u_la u_sh u_ac u_no ol si k_se k_tr k_fi k_la k_sh k_ac k_no x1 x2 x3 = some (-5, se, tr, fi, la, sh, ac, no, u_se, u_tr, u_fi, u_la, u_sh, u_ac, u_no, ol, si, k_se, k_tr, k_fi, k_la, k_sh, k_ac, k_no) := by
  have hN := hI.1
  have n0 := hN.1
  have hw := wit_in fi la x1 x2 n0
  obtain ⟨y, ey, y01, yi⟩ := q_isFreeAt (fu := fu) (a := x1) (b := x2) (g := x3) hN a0 a1 b0 b1 g0 (by omega) (by omega)
  have y0 : y = 0 := by
    rcases y01 with h | h
    · exact h
    · exact absurd (yi.mp h) f
  unfold f_X4_copy
  rw [ca_pass a0 a1 b0 b1 ab, jb_s, jck_of (by omega) (by omega) (by omega) (by omega), if_neg (show ¬ (1 : Int) = 0 by omega), q_isStep_t g0 g1, jb_s, jck_of (by omega) (by omega) (by omega) (by omega), if_pos (show (1 : Int) ≠ 0 by omega), q_within hN (by omega) (by omega) (by omega) (by omega) (by omega), jb_s, q_size, jb_s, jck_of (by omega) (by omega) (by omega) (by omega), if_pos e, ey, jb_s, jck_of (by omega) (by omega) (by omega) (by omega), if_neg (by omega)]
theorem ca_copy_f {x1 x2 x3 : Int} (hI : INV tr fi la sh ac no) (hH : HS ol si) (a0 : 0 ≤ x1) (a1 : x1 < 100) (b0 : 0 ≤ x2) (b1 : x2 < 100) (ab : x1 ≤ x2) (g0 : 0 ≤ x3) (g1 : x3 < 100) (e : no + fdA (sWit fi la x1 x2) 0 0 no ≤ 40) (f : FRa tr fi la no x1 x2 (x3 - x1)) (hf : 2000 ≤ fu) :
    ∃ se' tr' fi' la' sh' ac' v_se v_tr v_fi v_la v_sh v_ac v_no ol' si' k1 k2 k3 k4 k5 k6 k7, f_X4_copy fu se tr fi la sh ac no u_se u_tr u_fi u_la u_sh u_ac u_no ol si k_se k_tr k_fi k_la k_sh k_ac k_no x1 x2 x3 = some (fdA (sWit fi la x1 x2) 0 0 no, se', tr', fi', la', sh', ac', no + fdA (sWit fi la x1 x2) 0 0 no, v_se, v_tr, v_fi, v_la, v_sh, v_ac, v_no, ol', si', k1, k2, k3, k4, k5, k6, k7) ∧ EQn 4 se' se ∧ INV tr' fi' la' sh' ac' (no + fdA (sWit fi la x1 x2) 0 0 no) ∧ HS ol' si' ∧ AC v_ac ∧ (∀ j, 0 ≤ j → j < no → ∃ q, 0 ≤ q ∧ q < no + fdA (sWit fi la x1 x2) 0 0 no ∧ cR tr' fi' la' sh' ac' q = cR tr fi la sh ac j) ∧ (∀ j, 0 ≤ j → j < no → x1 ≤ fi j → la j ≤ x2 → ∃ q, 0 ≤ q ∧ q < no + fdA (sWit fi la x1 x2) 0 0 no ∧ cR tr' fi' la' sh' ac' q = (100 * (fi j + (x3 - x1)) + tr j, la j + (x3 - x1), sh j, ac j)) := by
  have hN := hI.1
  have n0 := hN.1
  have n1 := hN.2.1
  have hw := wit_in fi la x1 x2 n0
  obtain ⟨y, ey, y01, yi⟩ := q_isFreeAt (fu := fu) (a := x1) (b := x2) (g := x3) hN a0 a1 b0 b1 g0 (by omega) (by omega)
  have y1 := yi.mpr f
  obtain ⟨ol', si', k1, k2, k3, k4, k5, k6, k7, r1, hH'⟩ := ca_rec (fu := fu) (se := se) (tr := tr) (fi := fi) (la := la) (sh := sh) (no := no) (k_se := k_se) (k_tr := k_tr) (k_fi := k_fi) (k_la := k_la) (k_sh := k_sh) (k_ac := k_ac) (k_no := k_no) hI.2.1 hH (by omega)
  have hI0 : INV (jcpy tr u_tr 40) (jcpy fi u_fi 40) (jcpy la u_la 40) (jcpy sh u_sh 40) (jcpy ac u_ac 40) no := INV_ext hI (EQn_cpy _ _ _) (EQn_cpy _ _ _) (EQn_cpy _ _ _) (EQn_cpy _ _ _) (EQn_cpy _ _ _)
  obtain ⟨utr', ufi', ula', ush', uac', uno', l1, l4, l5, l6, l7⟩ := lc_copy (fu := fu) (a := x1) (b := x2) (g := x3) hI a0 b1 g0 g1 ab f e (by omega) no.toNat fu 0 _ _ _ _ _ no (by omega) (by omega) (by omega) hI0 (by rw [fdA_0]; omega) (fun q q0 q1 => Or.inl ⟨q, q0, q1, jcpy_in _ _ q0 (by omega), jcpy_in _ _ q0 (by omega), jcpy_in _ _ q0 (by omega)⟩) (fun j j0 j1 => ⟨j, j0, j1, cR_ext (EQn_cpy 40 _ _) (EQn_cpy 40 _ _) (EQn_cpy 40 _ _) (EQn_cpy 40 _ _) (EQn_cpy 40 _ _) j0 (by omega)⟩) (fun j j0 j1 => by omega)
  subst l5
  refine ⟨jcpy (jcpy se u_se 4) se 4, jcpy utr' tr 40, jcpy ufi' fi 40, jcpy ula' la 40, jcpy ush' sh 40, jcpy uac' ac 40, jcpy se u_se 4, utr', ufi', ula', ush', uac', no + fdA (sWit fi la x1 x2) 0 0 no, ol', si', k1, k2, k3, k4, k5, k6, k7, ?_, ?_, ?_, hH', ?_, ?_, ?_⟩
  · unfold f_X4_copy
    rw [ca_pass a0 a1 b0 b1 ab, jb_s, jck_of (by omega) (by omega) (by omega) (by omega), if_neg (show ¬ (1 : Int) = 0 by omega), q_isStep_t g0 g1, jb_s, jck_of (by omega) (by omega) (by omega) (by omega), if_pos (show (1 : Int) ≠ 0 by omega), q_within hN (by omega) (by omega) (by omega) (by omega) (by omega), jb_s, q_size, jb_s, jck_of (by omega) (by omega) (by omega) (by omega), if_pos e, ey, jb_s, jck_of (by omega) (by omega) (by omega) (by omega), if_pos (by omega), r1, jb9_s, q_become hI.2.1 (by omega), jb7_s]
    unfold f_X3_addPassage
    rw [l1, jb6_s, q_become l4.2.1 (by omega), jb7_s]
  · exact fun q q0 q1 => by rw [jcpy_in _ _ q0 q1, jcpy_in _ _ q0 q1]
  · exact INV_ext l4 (EQn_cpy _ _ _) (EQn_cpy _ _ _) (EQn_cpy _ _ _) (EQn_cpy _ _ _) (EQn_cpy _ _ _)
  · exact l4.2.1
  · intro j j0 j1
    obtain ⟨q, q0, q1, q2⟩ := l6 j j0 j1
    exact ⟨q, q0, q1, (cR_ext (EQn_cpy 40 _ _) (EQn_cpy 40 _ _) (EQn_cpy 40 _ _) (EQn_cpy 40 _ _) (EQn_cpy 40 _ _) q0 (by omega)).trans q2⟩
  · intro j j0 j1 j2 j3
    obtain ⟨q, q0, q1, q2⟩ := l7 j j0 j1 j2 j3
    exact ⟨q, q0, q1, (cR_ext (EQn_cpy 40 _ _) (EQn_cpy 40 _ _) (EQn_cpy 40 _ _) (EQn_cpy 40 _ _) (EQn_cpy 40 _ _) q0 (by omega)).trans q2⟩
theorem lc_cut {x1 x2 : Int} (hI : INV tr fi la sh ac no) (h2 : 0 ≤ x1) (h3 : x1 < 100) (h4 : 1 ≤ x2) (h5 : x2 ≤ 100) (hf : 1000 ≤ fu) :
    ∀ (n fA : Nat) (i : Int) (utr ufi ula ush uac : Int → Int), i + n = no → n < fA → 0 ≤ i → INV utr ufi ula ush uac (cN fi la x1 x2 i) → (∀ q, 0 ≤ q → q < cN fi la x1 x2 i → ∃ j, 0 ≤ j ∧ j < i ∧ utr q = tr j ∧ ufi q = cF x1 x2 (fi j) ∧ ula q = cL x1 x2 (la j)) → (∀ j, 0 ≤ j → j < i → cF x1 x2 (fi j) ≤ cL x1 x2 (la j) → ∃ q, 0 ≤ q ∧ q < cN fi la x1 x2 i ∧ cR utr ufi ula ush uac q = (100 * cF x1 x2 (fi j) + tr j, cL x1 x2 (la j), sh j, ac j)) →
      ∃ utr' ufi' ula' ush' uac', f_X3_takeCut_L13 fu tr fi la sh ac no x1 x2 (f_X3_takeCut_X130 fu) fA utr ufi ula ush uac (cN fi la x1 x2 i) (x1 + x2) i = some (utr', ufi', ula', ush', uac', cN fi la x1 x2 no) ∧ INV utr' ufi' ula' ush' uac' (cN fi la x1 x2 no) ∧ (∀ j, 0 ≤ j → j < no → cF x1 x2 (fi j) ≤ cL x1 x2 (la j) → ∃ q, 0 ≤ q ∧ q < cN fi la x1 x2 no ∧ cR utr' ufi' ula' ush' uac' q = (100 * cF x1 x2 (fi j) + tr j, cL x1 x2 (la j), sh j, ac j)) := by
  have hN := hI.1
  have n0 := hN.1
  have n1 := hN.2.1
  have z0 := cN_0 fi la x1 x2
  intro n
  induction n with
  | zero =>
    intro fA i utr ufi ula ush uac e1 e2 i0 hU hmem hhas
    obtain ⟨q, rfl⟩ : ∃ q, fA = q + 1 := ⟨fA - 1, by omega⟩
    have e : i = no := by omega
    subst e
    have hc := cN_le fi la x1 x2 (i := 0) (j := i) (by omega) (by omega)
    refine ⟨utr, ufi, ula, ush, uac, ?_, hU, hhas⟩
    show f_X3_takeCut_L13_b fu tr fi la sh ac i x1 x2 _ _ utr ufi ula ush uac _ (x1 + x2) i = _
    unfold f_X3_takeCut_L13_b
    rw [q_size, jb_s, jck_of (by omega) (by omega) (by omega) (by omega), if_pos (by omega)]; rfl
  | succ n ih =>
    intro fA i utr ufi ula ush uac e1 e2 i0 hU hmem hhas
    obtain ⟨q, rfl⟩ : ∃ q, fA = q + 1 := ⟨fA - 1, by omega⟩
    have hi : i < no := by omega
    obtain ⟨a1, a2, a3, a4, a5, a6, a7⟩ := hN.2.2 i i0 hi
    have hb := cFL_in (x1 := x1) (x2 := x2) a3 a4 a5 h2 h4
    have hs := cN_s fi la x1 x2 i0
    have hc0 := cN_le fi la x1 x2 (i := 0) (j := i) (by omega) (by omega)
    have hc1 := cN_le fi la x1 x2 (i := i + 1) (j := no) (by omega) (by omega)
    have ex : f_X3_takeCut_L13 fu tr fi la sh ac no x1 x2 (f_X3_takeCut_X130 fu) (q + 1) utr ufi ula ush uac (cN fi la x1 x2 i) (x1 + x2) i = f_X3_takeCut_L13_b fu tr fi la sh ac no x1 x2 (f_X3_takeCut_X130 fu) (f_X3_takeCut_L13 fu tr fi la sh ac no x1 x2 (f_X3_takeCut_X130 fu) q) utr ufi ula ush uac (cN fi la x1 x2 i) (x1 + x2) i := rfl
    rw [ex]
    by_cases c : cF x1 x2 (fi i) ≤ cL x1 x2 (la i)
    · rw [if_pos c] at hs
      have hac := hI.2.1 i i0 (by omega)
      have hfree : ∀ y, 0 ≤ y → y < cN fi la x1 x2 i → ¬ (utr y = tr i ∧ ufi y ≤ cL x1 x2 (la i) ∧ cF x1 x2 (fi i) ≤ ula y) := by
        intro y y0 y1 hy
        obtain ⟨j, j0, j1, m1, m2, m3⟩ := hmem y y0 y1
        have hd := hI.2.2.2 j i j0 j1 hi (by omega)
        have := cLF (x1 := x1) (x2 := x2) hd h4
        omega
      obtain ⟨p, ep, p0, p1, plo, phi⟩ := q_add (fu := fu) (t := tr i) (a := cF x1 x2 (fi i)) (b := cL x1 x2 (la i)) (s_ := sh i) (x := ac i) hU.1 hU.2.2.1 hU.2.1 (by omega) a1 a2 hb.1 hb.2.1 hac (by omega)
      have phi' := free_lt hU a1 a2 hb.1 c hfree p0 phi
      have hU' := INV_ins (s_ := sh i) (x := ac i) hU (by omega) a1 a2 hb.1 c hb.2.2.2.1 a6 a7 hac hfree p0 p1 plo phi'
      rw [← hs] at hU'
      have keep : ∀ (v : Int × Int × Int × Int), (∃ q, 0 ≤ q ∧ q < cN fi la x1 x2 i ∧ cR utr ufi ula ush uac q = v) → ∃ q, 0 ≤ q ∧ q < cN fi la x1 x2 (i + 1) ∧ cR (ins utr p (tr i) (cN fi la x1 x2 i)) (ins ufi p (cF x1 x2 (fi i)) (cN fi la x1 x2 i)) (ins ula p (cL x1 x2 (la i)) (cN fi la x1 x2 i)) (ins ush p (sh i) (cN fi la x1 x2 i)) (ins uac p (ac i) (cN fi la x1 x2 i)) q = v := by
        intro v ⟨y, y0, y1, y2⟩
        obtain ⟨y', z0, z1, z2⟩ := ins_old y0 y1 p0
        refine ⟨y', z0, by omega, ?_⟩
        rw [← y2]
        unfold cR
        rw [z2, z2, z2, z2, z2]
      obtain ⟨utr', ufi', ula', ush', uac', f1, f4, f5⟩ := ih q (i + 1) _ _ _ _ _ (by omega) (by omega) (by omega) hU' (fun y y0 y1 => by
        rw [hs] at y1
        rcases ins_mem (tr := utr) (fi := ufi) (la := ula) (p := p) (t := tr i) (a := cF x1 x2 (fi i)) (b := cL x1 x2 (la i)) y0 y1 p0 p1 with ⟨m1, m2, m3⟩ | ⟨y', w0, w1, m1, m2, m3⟩
        · exact ⟨i, i0, by omega, m1, m2, m3⟩
        · obtain ⟨j, j0, j1, t1, t2, t3⟩ := hmem y' w0 w1
          exact ⟨j, j0, by omega, m1.trans t1, m2.trans t2, m3.trans t3⟩) (fun j j0 j1 j2 => by
        by_cases hj : j = i
        · subst hj
          refine ⟨p, p0, by omega, ?_⟩
          unfold cR
          rw [ins_eq, ins_eq, ins_eq, ins_eq, ins_eq]
        · exact keep _ (hhas j j0 (by omega) j2))
      refine ⟨utr', ufi', ula', ush', uac', ?_, f4, f5⟩
      have hcl : ∀ v19, v19 = cL x1 x2 (la i) → f_X3_takeCut_J95 fu tr sh ac no utr ufi ula ush uac (cN fi la x1 x2 i) (x1 + x2) i (cF x1 x2 (fi i)) (f_X3_takeCut_L13 fu tr fi la sh ac no x1 x2 (f_X3_takeCut_X130 fu) q) v19 = some (utr', ufi', ula', ush', uac', cN fi la x1 x2 no) := by
        intro v19 hv
        unfold f_X3_takeCut_J95
        rw [q_trackOf i0 hi n1, jb_s, q_shiftOf i0 hi n1, jb_s, q_hasAccent hI.2.1 i0 hi n1, jb_s, hv, ep, jb7_s, ← hs]
        exact f1
      have h71 : f_X3_takeCut_J71 fu tr sh ac no x1 x2 utr ufi ula ush uac (cN fi la x1 x2 i) (x1 + x2) i (la i) (f_X3_takeCut_L13 fu tr fi la sh ac no x1 x2 (f_X3_takeCut_X130 fu) q) (cF x1 x2 (fi i)) = some (utr', ufi', ula', ush', uac', cN fi la x1 x2 no) := by
        unfold f_X3_takeCut_J71
        rw [jck_of (by omega) (by omega) (by omega) (by omega)]
        by_cases d : x1 + x2 ≤ la i
        · rw [if_pos d]
          exact hcl _ (by unfold cL; rw [if_pos (by omega), if_pos d])
        · rw [if_neg d, jck_of (by omega) (by omega) (by omega) (by omega)]
          refine hcl _ ?_
          unfold cL jmin
          by_cases y : x1 ≤ la i
          · rw [if_pos (by omega), if_pos y, if_neg d]
          · rw [if_neg (by omega), if_neg y]
      have h51 : f_X3_takeCut_J51 fu tr sh ac no x1 x2 utr ufi ula ush uac (cN fi la x1 x2 i) (x1 + x2) i (fi i) (la i) (f_X3_takeCut_L13 fu tr fi la sh ac no x1 x2 (f_X3_takeCut_X130 fu) q) = some (utr', ufi', ula', ush', uac', cN fi la x1 x2 no) := by
        unfold f_X3_takeCut_J51
        rw [jck_of (by omega) (by omega) (by omega) (by omega)]
        by_cases d : x1 ≤ fi i
        · rw [if_pos d, jck_of (by omega) (by omega) (by omega) (by omega)]
          have : jmax (fi i) (x1 + x2) - x2 = cF x1 x2 (fi i) := by
            unfold jmax cF
            rw [if_pos d]
            by_cases y : x1 + x2 ≤ fi i
            · rw [if_neg (by omega), if_pos y]
            · rw [if_pos (by omega), if_neg y]; omega
          rw [this]
          exact h71
        · rw [if_neg d]
          have : fi i = cF x1 x2 (fi i) := by unfold cF; rw [if_neg d]
          rw [← this] at h71
          exact h71
      unfold f_X3_takeCut_L13_b
      rw [q_size, jb_s, jck_of (by omega) (by omega) (by omega) (by omega), if_neg (by omega), q_firstOf i0 hi n1, jb_s, q_lastOf i0 hi n1, jb_s, jck_of (by omega) (by omega) (by omega) (by omega)]
      by_cases d : fi i < x1
      · rw [if_pos d]; exact h51
      · rw [if_neg d, jck_of (by omega) (by omega) (by omega) (by omega), if_neg (by omega)]; exact h51
    · rw [if_neg c] at hs
      have hdrop : x1 ≤ fi i ∧ la i < x1 + x2 := by
        by_cases y : x1 ≤ fi i ∧ la i < x1 + x2
        · exact y
        · exact absurd (hb.2.2.2.2.mpr y) c
      rw [← hs] at hU
      obtain ⟨utr', ufi', ula', ush', uac', f1, f4, f5⟩ := ih q (i + 1) utr ufi ula ush uac (by omega) (by omega) (by omega) hU (fun y y0 y1 => by
        rw [hs] at y1
        obtain ⟨j, j0, j1, t⟩ := hmem y y0 y1
        exact ⟨j, j0, by omega, t⟩) (fun j j0 j1 j2 => by
        rw [hs]
        refine hhas j j0 ?_ j2
        by_cases hj : j = i
        · subst hj; exact absurd j2 c
        · omega)
      rw [hs] at f1
      refine ⟨utr', ufi', ula', ush', uac', ?_, f4, f5⟩
      unfold f_X3_takeCut_L13_b
      rw [q_size, jb_s, jck_of (by omega) (by omega) (by omega) (by omega), if_neg (by omega), q_firstOf i0 hi n1, jb_s, q_lastOf i0 hi n1, jb_s, jck_of (by omega) (by omega) (by omega) (by omega), if_neg (by omega), jck_of (by omega) (by omega) (by omega) (by omega), if_pos hdrop.2]
      exact f1
theorem ca_cut {x1 x2 : Int} (hI : INV tr fi la sh ac no) (hH : HS ol si) (hAu : AC u_ac) (c1 : 0 ≤ x1) (c2 : x1 < 100) (d1 : 1 ≤ x2) (d2 : x2 ≤ 100 - x1) (hf : 2000 ≤ fu) :
    ∃ se' tr' fi' la' sh' ac' v_se v_tr v_fi v_la v_sh v_ac v_no ol' si' k1 k2 k3 k4 k5 k6 k7, f_X4_cut fu se tr fi la sh ac no u_se u_tr u_fi u_la u_sh u_ac u_no ol si k_se k_tr k_fi k_la k_sh k_ac k_no x1 x2 = some (no - cN fi la x1 x2 no, se', tr', fi', la', sh', ac', cN fi la x1 x2 no, v_se, v_tr, v_fi, v_la, v_sh, v_ac, v_no, ol', si', k1, k2, k3, k4, k5, k6, k7) ∧ EQn 4 se' se ∧ INV tr' fi' la' sh' ac' (cN fi la x1 x2 no) ∧ HS ol' si' ∧ AC v_ac ∧ (∀ j, 0 ≤ j → j < no → cF x1 x2 (fi j) ≤ cL x1 x2 (la j) → ∃ q, 0 ≤ q ∧ q < cN fi la x1 x2 no ∧ cR tr' fi' la' sh' ac' q = (100 * cF x1 x2 (fi j) + tr j, cL x1 x2 (la j), sh j, ac j)) := by
  have hN := hI.1
  have n0 := hN.1
  have n1 := hN.2.1
  have z0 := cN_0 fi la x1 x2
  have hcn := cN_le fi la x1 x2 (i := 0) (j := no) (by omega) (by omega)
  obtain ⟨ol', si', k1, k2, k3, k4, k5, k6, k7, r1, hH'⟩ := ca_rec (fu := fu) (se := se) (tr := tr) (fi := fi) (la := la) (sh := sh) (no := no) (k_se := k_se) (k_tr := k_tr) (k_fi := k_fi) (k_la := k_la) (k_sh := k_sh) (k_ac := k_ac) (k_no := k_no) hI.2.1 hH (by omega)
  have hU : INV u_tr u_fi u_la u_sh u_ac (cN fi la x1 x2 0) := by
    rw [z0]
    exact ⟨⟨by omega, by omega, fun k k0 k1 => by omega⟩, hAu, fun j k j0 jk k1 => by omega, fun j k j0 jk k1 => by omega⟩
  obtain ⟨utr', ufi', ula', ush', uac', g1, g4, g5⟩ := lc_cut (fu := fu) (x1 := x1) (x2 := x2) hI c1 c2 d1 (by omega) (by omega) no.toNat fu 0 u_tr u_fi u_la u_sh u_ac (by omega) (by omega) (by omega) hU (fun q q0 q1 => by omega) (fun j j0 j1 => by omega)
  rw [z0] at g1
  refine ⟨jcpy (jcpy se u_se 4) se 4, jcpy utr' tr 40, jcpy ufi' fi 40, jcpy ula' la 40, jcpy ush' sh 40, jcpy uac' ac 40, jcpy se u_se 4, utr', ufi', ula', ush', uac', cN fi la x1 x2 no, ol', si', k1, k2, k3, k4, k5, k6, k7, ?_, ?_, ?_, hH', ?_, ?_⟩
  · unfold f_X4_cut
    rw [q_isStep_t c1 c2, jb_s, jck_of (by omega) (by omega) (by omega) (by omega), if_neg (show ¬ (1 : Int) = 0 by omega), q_isIn_t d1 d2 (by omega) (by omega), jb_s, jck_of (by omega) (by omega) (by omega) (by omega), if_pos (show (1 : Int) ≠ 0 by omega), q_size, jb_s, r1, jb9_s]
    unfold f_X3_takeSettings f_X3_takeCut
    rw [jb_s, g1, jb6_s, q_become g4.2.1 (by omega), jb7_s, q_size, jb_s]
  · exact fun q q0 q1 => by rw [jcpy_in _ _ q0 q1, jcpy_in _ _ q0 q1]
  · exact INV_ext g4 (EQn_cpy _ _ _) (EQn_cpy _ _ _) (EQn_cpy _ _ _) (EQn_cpy _ _ _) (EQn_cpy _ _ _)
  · exact g4.2.1
  · intro j j0 j1 j2
    obtain ⟨q, q0, q1, q2⟩ := g5 j j0 j1 j2
    exact ⟨q, q0, q1, (cR_ext (EQn_cpy 40 _ _) (EQn_cpy 40 _ _) (EQn_cpy 40 _ _) (EQn_cpy 40 _ _) (EQn_cpy 40 _ _) q0 (by omega)).trans q2⟩
end Q67
