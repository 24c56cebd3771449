/-! free goal, copy -/
section Q61
variable {fu : Nat} {st kpf se tr fi la sh ac hsf u_se u_tr u_fi u_la u_sh u_ac : Int → Int} {no rc ol si u_no : Int} {k_se k_tr k_fi k_la k_sh k_ac : Int → Int → Int} {k_no : Int → Int}
theorem pass_both {a b : Int} (h1 : rg a) (h2 : rg b) : ∃ r, f_X4_isPassage fu a b = some r ∧ f_X5_isPassage fu a b = some r ∧ (r = 0 ∨ r = 1) ∧ (r = 1 ↔ 0 ≤ a ∧ a < 100 ∧ 0 ≤ b ∧ b < 100 ∧ a ≤ b) := by
  have a1 := h1.1
  have a2 := h1.2
  have b1 := h2.1
  have b2 := h2.2
  unfold f_X4_isPassage f_X5_isPassage
  by_cases c : 0 ≤ a ∧ a < 100
  · rw [q_isStep_t c.1 c.2, jb_s, m_isStep_t c.1 c.2, jb_s, jck_of (by omega) (by omega) (by omega) (by omega), if_neg (show ¬ (1 : Int) = 0 by omega), jck_of (by omega) (by omega) (by omega) (by omega), if_neg (show ¬ (1 : Int) = 0 by omega)]
    by_cases d : 0 ≤ b ∧ b < 100
    · rw [q_isStep_t d.1 d.2, jb_s, m_isStep_t d.1 d.2, jb_s, jck_of (by omega) (by omega) (by omega) (by omega), if_neg (show ¬ (1 : Int) = 0 by omega), jck_of (by omega) (by omega) (by omega) (by omega)]
      by_cases e : b < a
      · rw [if_pos e, jbo_of (by omega)]
        exact ⟨0, rfl, rfl, Or.inl rfl, fun h => absurd h (by omega), fun h => by omega⟩
      · rw [if_neg e, jbo_of (by omega)]
        exact ⟨1, rfl, rfl, Or.inr rfl, fun _ => by omega, fun h => rfl⟩
    · rw [q_isStep_f (by omega) b1 b2, jb_s, m_isStep_f (by omega) b1 b2, jb_s, jck_of (by omega) (by omega) (by omega) (by omega), if_pos (show (0 : Int) = 0 from rfl), jbo_of (by omega)]
      exact ⟨0, rfl, rfl, Or.inl rfl, fun h => absurd h (by omega), fun h => by omega⟩
  · rw [q_isStep_f (by omega) a1 a2, jb_s, m_isStep_f (by omega) a1 a2, jb_s, jck_of (by omega) (by omega) (by omega) (by omega), if_pos (show (0 : Int) = 0 from rfl), jbo_of (by omega), jck_of (by omega) (by omega) (by omega) (by omega), if_pos (show (0 : Int) = 0 from rfl)]
    exact ⟨0, rfl, rfl, Or.inl rfl, fun h => absurd h (by omega), fun h => by omega⟩
theorem op_freeGoal {x1 x2 : Int} (h1 : rg x1) (h2 : rg x2) (hS : RSt st se tr fi la sh ac no) (hf : 2000 ≤ fu) :
    ∃ r, f_X4_freeGoal fu tr fi la no x1 x2 = some r ∧ f_X5_freeGoal fu st x1 x2 = some r := by
  have hI := hS.inv
  have hN := hI.1
  have hR := hS.1
  have n0 := hN.1
  have n1 := hN.2.1
  obtain ⟨z, e1, e2, z01, zi⟩ := pass_both (fu := fu) h1 h2
  unfold f_X4_freeGoal f_X5_freeGoal
  rw [e1, jb_s, e2, jb_s, jck_of (by omega) (by omega) (by omega) (by omega), jck_of (by omega) (by omega) (by omega) (by omega)]
  by_cases c : z = 0
  · rw [if_neg (by omega), if_neg (by omega)]
    exact ⟨_, rfl, rfl⟩
  · obtain ⟨a0, a1, b0, b1, ab⟩ := zi.mp (by omega)
    have hw := wit_in fi la x1 x2 n0
    rw [if_pos c, if_pos c, q_within hN (by omega) (by omega) (by omega) (by omega) (by omega), jb_s, m_betweenMany hR hN (by omega) (by omega) (by omega) (by omega) (by omega), jb_s, jck_of (by omega) (by omega) (by omega) (by omega), jck_of (by omega) (by omega) (by omega) (by omega)]
    by_cases d : fdA (sWit fi la x1 x2) 0 0 no = 0
    · rw [if_pos d, if_neg (by omega)]
      exact ⟨_, rfl, rfl⟩
    · rw [if_neg d, if_pos d, q_size, jb_s, jck_of (by omega) (by omega) (by omega) (by omega)]
      by_cases e : no + fdA (sWit fi la x1 x2) 0 0 no ≤ 40
      · rw [if_pos e]
        have key : ∀ (n fuel : Nat) (g : Int), 0 ≤ g → g + n = 100 → n < fuel → ∃ r, f_X4_freeGoal_L45 fu tr fi la no x1 x2 (f_X4_freeGoal_X72 fu) fuel g = some r ∧ f_X5_freeGoal_L25 fu st x1 x2 (f_X5_freeGoal_X49 fu) fuel g = some r := by
          intro n
          induction n with
          | zero =>
            intro fuel g g0 g1 g2
            obtain ⟨q, rfl⟩ : ∃ q, fuel = q + 1 := ⟨fuel - 1, by omega⟩
            refine ⟨-6, ?_, ?_⟩
            · show f_X4_freeGoal_L45_b fu tr fi la no x1 x2 _ _ g = _
              unfold f_X4_freeGoal_L45_b
              rw [jck_of (by omega) (by omega) (by omega) (by omega), if_pos (by omega)]; rfl
            · show f_X5_freeGoal_L25_b fu st x1 x2 _ _ g = _
              unfold f_X5_freeGoal_L25_b
              rw [jck_of (by omega) (by omega) (by omega) (by omega), if_pos (by omega)]; rfl
          | succ n ih =>
            intro fuel g g0 g1 g2
            obtain ⟨q, rfl⟩ : ∃ q, fuel = q + 1 := ⟨fuel - 1, by omega⟩
            obtain ⟨y, ey, y01, yi⟩ := q_isFreeAt (fu := fu) (a := x1) (b := x2) (g := g) hN a0 a1 b0 b1 g0 (by omega) (by omega)
            obtain ⟨w, ew, -, wi⟩ := m_whyNot (fu := fu) (a := x1) (b := x2) (g := g) hR hN a0 a1 b0 b1 g0 (by omega) (by omega)
            have wi := wi e
            have ex1 : f_X4_freeGoal_L45 fu tr fi la no x1 x2 (f_X4_freeGoal_X72 fu) (q + 1) g = f_X4_freeGoal_L45_b fu tr fi la no x1 x2 (f_X4_freeGoal_X72 fu) (f_X4_freeGoal_L45 fu tr fi la no x1 x2 (f_X4_freeGoal_X72 fu) q) g := rfl
            have ex2 : f_X5_freeGoal_L25 fu st x1 x2 (f_X5_freeGoal_X49 fu) (q + 1) g = f_X5_freeGoal_L25_b fu st x1 x2 (f_X5_freeGoal_X49 fu) (f_X5_freeGoal_L25 fu st x1 x2 (f_X5_freeGoal_X49 fu) q) g := rfl
            rw [ex1, ex2]
            unfold f_X4_freeGoal_L45_b f_X5_freeGoal_L25_b
            rw [jck_of (by omega) (by omega) (by omega) (by omega), if_neg (by omega), ey, jb_s, jck_of (by omega) (by omega) (by omega) (by omega), jck_of (by omega) (by omega) (by omega) (by omega), if_neg (show ¬ 100 ≤ g by omega), ew, jb_s, jck_of (by omega) (by omega) (by omega) (by omega)]
            by_cases f : FRa tr fi la no x1 x2 (g - x1)
            · have y1 := yi.mpr f
              have w0 : w = 0 := by
                rcases wi with h | h
                · exact h.1
                · exact absurd f h.2
              rw [if_neg (by omega), if_neg (by omega)]
              exact ⟨_, rfl, rfl⟩
            · have y0 : y = 0 := by
                rcases y01 with h | h
                · exact h
                · exact absurd (yi.mp h) f
              have w0 : w = -5 := by
                rcases wi with h | h
                · exact absurd h.2 f
                · exact h.1
              rw [if_pos y0, if_pos (by omega)]
              exact ih q (g + 1) (by omega) (by omega) (by omega)
        exact key 100 fu 0 (by omega) (by omega) (by omega)
      · rw [if_neg e]
        have key : ∀ (n fuel : Nat) (g : Int), 0 ≤ g → g + n = 100 → n < fuel → f_X5_freeGoal_L25 fu st x1 x2 (f_X5_freeGoal_X49 fu) fuel g = some (-6) := by
          intro n
          induction n with
          | zero =>
            intro fuel g g0 g1 g2
            obtain ⟨q, rfl⟩ : ∃ q, fuel = q + 1 := ⟨fuel - 1, by omega⟩
            show f_X5_freeGoal_L25_b fu st x1 x2 _ _ g = _
            unfold f_X5_freeGoal_L25_b
            rw [jck_of (by omega) (by omega) (by omega) (by omega), if_pos (by omega)]; rfl
          | succ n ih =>
            intro fuel g g0 g1 g2
            obtain ⟨q, rfl⟩ : ∃ q, fuel = q + 1 := ⟨fuel - 1, by omega⟩
            obtain ⟨w, ew, wi, -⟩ := m_whyNot (fu := fu) (a := x1) (b := x2) (g := g) hR hN a0 a1 b0 b1 g0 (by omega) (by omega)
            have w4 := wi (by omega)
            show f_X5_freeGoal_L25_b fu st x1 x2 _ _ g = _
            unfold f_X5_freeGoal_L25_b
            rw [jck_of (by omega) (by omega) (by omega) (by omega), if_neg (by omega), ew, jb_s, jck_of (by omega) (by omega) (by omega) (by omega), if_pos (by omega)]
            exact ih q (g + 1) (by omega) (by omega) (by omega)
        exact ⟨-6, rfl, key 100 fu 0 (by omega) (by omega) (by omega)⟩
-- the copies, one after another
theorem l_copy {a b g : Int} (hI : INV tr fi la sh ac no) (hRk : RLm kpf se tr fi la sh ac no) (a0 : 0 ≤ a) (b1 : b < 100) (g0 : 0 ≤ g) (g1 : g < 100) (hab : a ≤ b) (hFR : FRa tr fi la no a b (g - a)) (hmax : no + fdA (sWit fi la a b) 0 0 no ≤ 40) (hf : 1000 ≤ fu) :
    ∀ (n fuel : Nat) (i : Int) (utr ufi ula ush uac stf : Int → Int) (uno : Int), i + n = no → n < fuel → 0 ≤ i → RLm stf se utr ufi ula ush uac uno → INV utr ufi ula ush uac uno → uno = no + fdA (sWit fi la a b) 0 0 i → (∀ q, 0 ≤ q → q < uno → (∃ j, 0 ≤ j ∧ j < no ∧ utr q = tr j ∧ ufi q = fi j ∧ ula q = la j) ∨ (∃ j, 0 ≤ j ∧ j < i ∧ utr q = tr j ∧ ufi q = fi j + (g - a) ∧ ula q = la j + (g - a))) →
      ∃ utr' ufi' ula' ush' uac' stf' uno', f_X3_addPassage_L3 fu tr fi la sh ac no a b g (f_X3_addPassage_X82 fu) fuel utr ufi ula ush uac uno i = some (utr', ufi', ula', ush', uac', uno') ∧ f_X5_copy_L58 fu a b g (f_X5_copy_X170 fu) fuel rc stf kpf hsf (fdA (sWit fi la a b) 0 0 i) i = some (fdA (sWit fi la a b) 0 0 no, rc, stf', kpf, hsf) ∧ RLm stf' se utr' ufi' ula' ush' uac' uno' ∧ INV utr' ufi' ula' ush' uac' uno' := by
  have hN := hI.1
  have n0 := hN.1
  have n1 := hN.2.1
  intro n
  induction n with
  | zero =>
    intro fuel i utr ufi ula ush uac stf uno h1 h2 h3 h4 h5 h6 h7
    obtain ⟨q, rfl⟩ : ∃ q, fuel = q + 1 := ⟨fuel - 1, by omega⟩
    have e : i = no := by omega
    subst e
    refine ⟨utr, ufi, ula, ush, uac, stf, uno, ?_, ?_, h4, h5⟩
    · show f_X3_addPassage_L3_b fu tr fi la sh ac i a b g _ _ utr ufi ula ush uac uno i = _
      unfold f_X3_addPassage_L3_b
      rw [q_size, jb_s, jck_of (by omega) (by omega) (by omega) (by omega), if_pos (by omega)]; rfl
    · show f_X5_copy_L58_b fu a b g _ _ rc stf kpf hsf _ i = _
      unfold f_X5_copy_L58_b
      rw [hRk.n4, jix_of (by omega) (by omega), jck_of (by omega) (by omega) (by omega) (by omega), if_pos (by omega)]; rfl
  | succ n ih =>
    intro fuel i utr ufi ula ush uac stf uno h1 h2 h3 h4 h5 h6 h7
    obtain ⟨q, rfl⟩ : ∃ q, fuel = q + 1 := ⟨fuel - 1, by omega⟩
    have hi : i < no := by omega
    obtain ⟨a1', a2', a3', a4', a5', a6', a7'⟩ := hN.2.2 i h3 hi
    obtain ⟨k0, k1, k2, k3, k4⟩ := hRk.2.2 i h3 hi
    have ex1 : f_X3_addPassage_L3 fu tr fi la sh ac no a b g (f_X3_addPassage_X82 fu) (q + 1) utr ufi ula ush uac uno i = f_X3_addPassage_L3_b fu tr fi la sh ac no a b g (f_X3_addPassage_X82 fu) (f_X3_addPassage_L3 fu tr fi la sh ac no a b g (f_X3_addPassage_X82 fu) q) utr ufi ula ush uac uno i := rfl
    have ex2 : f_X5_copy_L58 fu a b g (f_X5_copy_X170 fu) (q + 1) rc stf kpf hsf (fdA (sWit fi la a b) 0 0 i) i = f_X5_copy_L58_b fu a b g (f_X5_copy_X170 fu) (f_X5_copy_L58 fu a b g (f_X5_copy_X170 fu) q) rc stf kpf hsf (fdA (sWit fi la a b) 0 0 i) i := rfl
    rw [ex1, ex2]
    have es := fdA_s (sWit fi la a b) 0 h3
    have ew : sWit fi la a b i (fdA (sWit fi la a b) 0 0 i) = if a ≤ fi i ∧ la i ≤ b then fdA (sWit fi la a b) 0 0 i + 1 else fdA (sWit fi la a b) 0 0 i := rfl
    rw [ew] at es
    unfold f_X3_addPassage_L3_b f_X5_copy_L58_b
    rw [q_size, jb_s, jck_of (by omega) (by omega) (by omega) (by omega), if_neg (by omega), q_liesWithin hN h3 hi (by omega) (by omega) (by omega) (by omega), jb_s, hRk.n4, k0, k1, k2, k3, k4, jix_of (by omega) (by omega), jck_of (a := i) (b := no) (by omega) (by omega) (by omega) (by omega), if_neg (show ¬ no ≤ i by omega), jix_of (by omega) (by omega), jck_of (a := fi i) (b := a) (by omega) (by omega) (by omega) (by omega)]
    by_cases w : a ≤ fi i ∧ la i ≤ b
    · rw [if_pos w] at es
      have hmono := wit_mono fi la a b (no - (i + 1)).toNat (i + 1) (by omega)
      rw [show i + 1 + ((no - (i + 1)).toNat : Int) = no by omega] at hmono
      have hfr := hFR i h3 hi w
      have hfree : ∀ y, 0 ≤ y → y < uno → ¬ (utr y = tr i ∧ ufi y ≤ la i + (g - a) ∧ fi i + (g - a) ≤ ula y) := by
        intro y y0 y1 hy
        rcases h7 y y0 y1 with ⟨j, j0, j1, t1, t2, t3⟩ | ⟨j, j0, j1, t1, t2, t3⟩
        · exact hfr.2 ⟨j, j0, j1, by omega, by omega, by omega⟩
        · have := hI.2.2.2 j i j0 j1 hi (by omega)
          omega
      obtain ⟨p, ep, p0, p1, plo, phi⟩ := q_add (fu := fu) (t := tr i) (a := fi i + (g - a)) (b := la i + (g - a)) (s_ := sh i) (x := ac i) h5.1 h5.2.2.1 h5.2.1 (by omega) a1' a2' (by omega) (by omega) (hI.2.1 i h3 (by omega)) (by omega)
      have phi' := free_lt h5 a1' a2' (by omega) (by omega) hfree p0 phi
      obtain ⟨st', est, hR', -⟩ := m_putIn (fu := fu) (t := tr i) (a := fi i + (g - a)) (b := la i + (g - a)) (s_ := sh i) (x := ac i) h4 h5.1 (by omega) a1' a2' (by omega) (by omega) p0 p1 plo phi' (by omega)
      have hI' := INV_ins (s_ := sh i) (x := ac i) h5 (by omega) a1' a2' (by omega) (by omega) hfr.1 a6' a7' (hI.2.1 i h3 (by omega)) hfree p0 p1 plo phi'
      obtain ⟨utr', ufi', ula', ush', uac', stf', uno', e1, e2, e3, e4⟩ := ih q (i + 1) _ _ _ _ _ st' (uno + 1) (by omega) (by omega) (by omega) hR' hI' (by omega) (fun y y0 y1 => by
        rcases ins_mem (tr := utr) (fi := ufi) (la := ula) (p := p) (t := tr i) (a := fi i + (g - a)) (b := la i + (g - a)) y0 y1 p0 p1 with ⟨m1, m2, m3⟩ | ⟨y', z0, z1, m1, m2, m3⟩
        · exact Or.inr ⟨i, h3, by omega, m1, m2, m3⟩
        · rcases h7 y' z0 z1 with ⟨j, j0, j1, t1, t2, t3⟩ | ⟨j, j0, j1, t1, t2, t3⟩
          · exact Or.inl ⟨j, j0, j1, m1.trans t1, m2.trans t2, m3.trans t3⟩
          · exact Or.inr ⟨j, j0, by omega, m1.trans t1, m2.trans t2, m3.trans t3⟩)
      rw [es] at e2
      refine ⟨utr', ufi', ula', ush', uac', stf', uno', ?_, ?_, e3, e4⟩
      · rw [if_pos w, jck_of (by omega) (by omega) (by omega) (by omega), if_neg (show ¬ (1 : Int) = 0 by omega), q_firstOf h3 hi n1, jb_s, q_lastOf h3 hi n1, jb_s, q_trackOf h3 hi n1, jb_s, q_shiftOf h3 hi n1, jb_s, q_hasAccent hI.2.1 h3 hi n1, jb_s, show fi i - a + g = fi i + (g - a) by omega, show la i - a + g = la i + (g - a) by omega, ep, jb7_s]
        exact e1
      · rw [if_neg (by omega), jix_of (by omega) (by omega), jck_of (by omega) (by omega) (by omega) (by omega), if_neg (by omega), jix_of (by omega) (by omega), jix_of (by omega) (by omega), jix_of (by omega) (by omega), jix_of (by omega) (by omega), jix_of (by omega) (by omega), show fi i + g - a = fi i + (g - a) by omega, show la i + g - a = la i + (g - a) by omega, est, jb2_s]
        exact e2
    · rw [if_neg w] at es
      obtain ⟨utr', ufi', ula', ush', uac', stf', uno', e1, e2, e3, e4⟩ := ih q (i + 1) utr ufi ula ush uac stf uno (by omega) (by omega) (by omega) h4 h5 (by omega) (fun y y0 y1 => by
        rcases h7 y y0 y1 with h | ⟨j, j0, j1, t1⟩
        · exact Or.inl h
        · exact Or.inr ⟨j, j0, by omega, t1⟩)
      rw [es] at e2
      refine ⟨utr', ufi', ula', ush', uac', stf', uno', ?_, ?_, e3, e4⟩
      · rw [if_neg w, jck_of (by omega) (by omega) (by omega) (by omega), if_pos (show (0 : Int) = 0 from rfl)]
        exact e1
      · by_cases d : fi i < a
        · rw [if_pos d]; exact e2
        · rw [if_neg d, jix_of (by omega) (by omega), jck_of (by omega) (by omega) (by omega) (by omega), if_pos (by omega)]
          exact e2
theorem op_copy {x1 x2 x3 : Int} (h1 : rg x1) (h2 : rg x2) (h3 : rg x3) (hS : RSt st se tr fi la sh ac no) (hH : HRt rc hsf ol si k_se k_tr k_fi k_la k_sh k_ac k_no) (hAu : AC u_ac) (hf : 2000 ≤ fu) :
    ∃ r se' tr' fi' la' sh' ac' no' u_se' u_tr' u_fi' u_la' u_sh' u_ac' u_no' ol' si' k_se' k_tr' k_fi' k_la' k_sh' k_ac' k_no' rc' st' kpf' hsf', f_X4_copy fu se tr fi la sh ac no u_se u_tr u_fi u_la u_sh u_ac u_no ol si k_se k_tr k_fi k_la k_sh k_ac k_no x1 x2 x3 = some (r, se', tr', fi', la', sh', ac', no', u_se', u_tr', u_fi', u_la', u_sh', u_ac', u_no', ol', si', k_se', k_tr', k_fi', k_la', k_sh', k_ac', k_no') ∧ f_X5_copy fu rc st kpf hsf x1 x2 x3 = some (r, rc', st', kpf', hsf') ∧ RSt st' se' tr' fi' la' sh' ac' no' ∧ HRt rc' hsf' ol' si' k_se' k_tr' k_fi' k_la' k_sh' k_ac' k_no' ∧ AC u_ac' := by
  have c1 := h3.1
  have c2 := h3.2
  have hI := hS.inv
  have hN := hI.1
  have hE := hS.2.2.1
  have hR := hS.1
  have n0 := hN.1
  have n1 := hN.2.1
  obtain ⟨z, e1, e2, z01, zi⟩ := pass_both (fu := fu) h1 h2
  unfold f_X4_copy f_X5_copy
  rw [e1, jb_s, e2, jb_s, jck_of (by omega) (by omega) (by omega) (by omega), jck_of (by omega) (by omega) (by omega) (by omega)]
  by_cases c : z = 0
  · rw [if_pos c, if_pos c]
    exact ⟨_, _, _, _, _, _, _, _, _, _, _, _, _, _, _, _, _, _, _, _, _, _, _, _, _, _, _, _, rfl, rfl, hS, hH, hAu⟩
  · obtain ⟨a0, a1, b0, b1, ab⟩ := zi.mp (by omega)
    have hw := wit_in fi la x1 x2 n0
    rw [if_neg c, if_neg c]
    by_cases d : 0 ≤ x3 ∧ x3 < 100
    · obtain ⟨g0, g1⟩ := d
      obtain ⟨y, ey, y01, yi⟩ := q_isFreeAt (fu := fu) (a := x1) (b := x2) (g := x3) hN a0 a1 b0 b1 g0 (by omega) (by omega)
      obtain ⟨w, ew, w4, wi⟩ := m_whyNot (fu := fu) (a := x1) (b := x2) (g := x3) hR hN a0 a1 b0 b1 g0 (by omega) (by omega)
      rw [q_isStep_t g0 g1, jb_s, m_isStep_t g0 g1, jb_s, jck_of (by omega) (by omega) (by omega) (by omega), if_pos (show (1 : Int) ≠ 0 by omega), jck_of (by omega) (by omega) (by omega) (by omega), if_pos (show (1 : Int) ≠ 0 by omega), q_within hN (by omega) (by omega) (by omega) (by omega) (by omega), jb_s, q_size, jb_s, jck_of (by omega) (by omega) (by omega) (by omega), ew, jb_s]
      by_cases e : no + fdA (sWit fi la x1 x2) 0 0 no ≤ 40
      · have wi := wi e
        rw [if_pos e, ey, jb_s, jck_of (by omega) (by omega) (by omega) (by omega)]
        by_cases f : FRa tr fi la no x1 x2 (x3 - x1)
        · have y1 := yi.mpr f
          have w0 : w = 0 := by
            rcases wi with h | h
            · exact h.1
            · exact absurd f h.2
          have hkp : RLm (fun q => if (0 : Int) ≤ q ∧ q < 0 + 205 then st (q - 0 + 0) else kpf q) (jcpy se u_se 4) (jcpy tr u_tr 40) (jcpy fi u_fi 40) (jcpy la u_la 40) (jcpy sh u_sh 40) (jcpy ac u_ac 40) no := (RSt_ext hS (fun x x0 x1 => by
            show (if _ then _ else _) = _
            rw [if_pos (by omega)]
            congr 1
            omega) (EQn_cpy _ _ _) (EQn_cpy _ _ _) (EQn_cpy _ _ _) (EQn_cpy _ _ _) (EQn_cpy _ _ _) (EQn_cpy _ _ _)).1
          have hkp2 : RLm (fun q => if (0 : Int) ≤ q ∧ q < 0 + 205 then st (q - 0 + 0) else kpf q) (jcpy se u_se 4) tr fi la sh ac no := (RSt_ext hS (fun x x0 x1 => by
            show (if _ then _ else _) = _
            rw [if_pos (by omega)]
            congr 1
            omega) (EQn_cpy _ _ _) (EQn_rf _ _) (EQn_rf _ _) (EQn_rf _ _) (EQn_rf _ _) (EQn_rf _ _)).1
          have hS' : RSt st (jcpy se u_se 4) (jcpy tr u_tr 40) (jcpy fi u_fi 40) (jcpy la u_la 40) (jcpy sh u_sh 40) (jcpy ac u_ac 40) no := RSt_ext hS (EQn_rf _ _) (EQn_cpy _ _ _) (EQn_cpy _ _ _) (EQn_cpy _ _ _) (EQn_cpy _ _ _) (EQn_cpy _ _ _) (EQn_cpy _ _ _)
          obtain ⟨rc', hsf', ol', si', k1, k2, k3, k4, k5, k6, k7, r1, r2, hH'⟩ := op_record (fu := fu) hS hH hf
          obtain ⟨utr', ufi', ula', ush', uac', stf', uno', l1, l2, l3, l4⟩ := l_copy (fu := fu) (rc := rc') (hsf := hsf') (a := x1) (b := x2) (g := x3) hI hkp2 a0 b1 g0 g1 ab f e (by omega) no.toNat fu 0 _ _ _ _ _ st no (by omega) (by omega) (by omega) hS'.1 hS'.inv (by rw [fdA_0]; omega) (fun q q0 q1 => Or.inl ⟨q, q0, q1, jcpy_in _ _ q0 (by omega), jcpy_in _ _ q0 (by omega), jcpy_in _ _ q0 (by omega)⟩)
          rw [fdA_0] at l2
          rw [if_pos (by omega), r1, jb9_s, q_become hI.2.1 (by omega), jb7_s]
          unfold f_X3_addPassage
          rw [l1, jb6_s, q_become l4.2.1 (by omega), jb7_s, jck_of (by omega) (by omega) (by omega) (by omega), if_pos (show 0 ≤ w by omega), r2, jb2_s, m_moves (by omega) (by omega) (by omega) (by omega) (by omega), jb_s, l2]
          exact ⟨_, _, _, _, _, _, _, _, _, _, _, _, _, _, _, _, _, _, _, _, _, _, _, _, _, _, _, _, rfl, rfl, RSt_ext (RSt_of l3 hS'.2.2.1 l4) (EQn_rf _ _) (EQn_cpy _ _ _) (EQn_cpy _ _ _) (EQn_cpy _ _ _) (EQn_cpy _ _ _) (EQn_cpy _ _ _) (EQn_cpy _ _ _), hH', l4.2.1⟩
        · have y0 : y = 0 := by
            rcases y01 with h | h
            · exact h
            · exact absurd (yi.mp h) f
          have w0 : w = -5 := by
            rcases wi with h | h
            · exact absurd h.2 f
            · exact h.1
          subst w0
          rw [if_neg (by omega), jck_of (by omega) (by omega) (by omega) (by omega), if_neg (show ¬ (0 : Int) ≤ -5 by omega)]
          exact ⟨_, _, _, _, _, _, _, _, _, _, _, _, _, _, _, _, _, _, _, _, _, _, _, _, _, _, _, _, rfl, rfl, hS, hH, hAu⟩
      · have w0 := w4 (by omega)
        subst w0
        rw [if_neg e, jck_of (by omega) (by omega) (by omega) (by omega), if_neg (show ¬ (0 : Int) ≤ -4 by omega)]
        exact ⟨_, _, _, _, _, _, _, _, _, _, _, _, _, _, _, _, _, _, _, _, _, _, _, _, _, _, _, _, rfl, rfl, hS, hH, hAu⟩
    · rw [q_isStep_f (by omega) c1 c2, jb_s, m_isStep_f (by omega) c1 c2, jb_s, jck_of (by omega) (by omega) (by omega) (by omega), if_neg (show ¬ (0 : Int) ≠ 0 by omega), jck_of (by omega) (by omega) (by omega) (by omega), if_neg (show ¬ (0 : Int) ≠ 0 by omega)]
      exact ⟨_, _, _, _, _, _, _, _, _, _, _, _, _, _, _, _, _, _, _, _, _, _, _, _, _, _, _, _, rfl, rfl, hS, hH, hAu⟩
end Q61
