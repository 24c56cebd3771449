/-! the law's acts: steps cut out -/
theorem cL_cs (st m v : Int) (hm : 1 ≤ m) : (v < st → cL st m v = v) ∧ (st ≤ v → v < st + m → cL st m v = st - 1) ∧ (st + m ≤ v → cL st m v = v - m) := by
  unfold cL
  refine ⟨fun h => by rw [if_neg (by omega)], fun h h2 => by rw [if_pos h, if_neg (by omega)], fun h => by rw [if_pos (by omega), if_pos h]⟩
theorem cF_cs (st m v : Int) (hm : 1 ≤ m) : (v < st → cF st m v = v) ∧ (st ≤ v → v < st + m → cF st m v = st) ∧ (st + m ≤ v → cF st m v = v - m) := by
  unfold cF
  refine ⟨fun h => by rw [if_neg (by omega)], fun h h2 => by rw [if_pos h, if_neg (by omega)], fun h => by rw [if_pos (by omega), if_pos h]⟩
section Q79
variable {fu : Nat} {se tr fi la sh ac u_se u_tr u_fi u_la u_sh u_ac p_eh p_hf lq ln lh xc : Int → Int} {no u_no p_we ol si d_le i : Int} {k_se k_tr k_fi k_la k_sh k_ac : Int → Int → Int} {k_no : Int → Int}
theorem a_L751 {n st m a b : Int} {K : Int → Int → Option OT} (r1 : ln (5 * n + 1) = b) (n0 : 0 ≤ n) (n1 : n < 12) (a0 : 0 ≤ a) (ab : a ≤ b) (b1 : b < 60) (s0 : 0 ≤ st) (s1 : st < 60) (m0 : 1 ≤ m) (m1 : m ≤ 8) (hf : 200 ≤ fu) :
    f_L_law_L751 fu st ln m n K fu (-1) (-1) a = K (if cF st m a ≤ cL st m b then cF st m a else -1) (if cF st m a ≤ cL st m b then cL st m b else -1) := by
  have F := cF_cs st m a m0
  obtain ⟨p, e, i1, i2⟩ := loop_upI (L := fun q (v : Int × Int) x => f_L_law_L751 fu st ln m n K q v.1 v.2 x) (fun v => K v.1 v.2)
    (fun x v => a ≤ x ∧ ((cF st m a ≤ cL st m (x - 1) ∧ v.1 = cF st m a ∧ v.2 = cL st m (x - 1)) ∨ (cL st m (x - 1) < cF st m a ∧ v.1 = -1 ∧ v.2 = -1))) (b + 1)
    (fun q v hI => by
      show f_L_law_L751_b fu st ln m n _ _ v.1 v.2 (b + 1) = _
      unfold f_L_law_L751_b
      rw [jix_of (by omega) (by omega), r1, jck_of (by omega) (by omega) (by omega) (by omega), if_pos (by omega)])
    (fun q v x hx hI => by
      obtain ⟨i1, i2⟩ := hI
      have L1 := cL_cs st m x m0
      have L0 := cL_cs st m (x - 1) m0
      have hv : -1 ≤ v.1 ∧ v.1 < 100 := by
        rcases i2 with ⟨h1, h2, h3⟩ | ⟨h1, h2, h3⟩ <;> omega
      by_cases c : x < st ∨ st + m ≤ x
      · have J784 : f_L_law_J784 fu st m v.1 x (f_L_law_L751 fu st ln m n K q) = f_L_law_L751 fu st ln m n K q (if 0 ≤ v.1 then v.1 else cL st m x) (cL st m x) (x + 1) := by
          unfold f_L_law_J784 f_L_law_J801
          rw [jck_of (by omega) (by omega) (by omega) (by omega)]
          by_cases d : st ≤ x
          · have e : x - m = cL st m x := by omega
            rw [if_pos d, jck_of (by omega) (by omega) (by omega) (by omega), e]
            by_cases g : 0 ≤ v.1
            · rw [if_pos g, if_pos g]
            · rw [if_neg g, if_neg g]
          · have e : cL st m x = x := by omega
            rw [if_neg d, jck_of (by omega) (by omega) (by omega) (by omega), e]
            by_cases g : 0 ≤ v.1
            · rw [if_pos g, if_pos g]
            · rw [if_neg g, if_neg g]
        refine ⟨(if 0 ≤ v.1 then v.1 else cL st m x, cL st m x), ?_, by omega, Or.inl ⟨?_, ?_, ?_⟩⟩
        · show f_L_law_L751_b fu st ln m n _ _ v.1 v.2 x = _
          unfold f_L_law_L751_b
          rw [jix_of (by omega) (by omega), r1, jck_of (by omega) (by omega) (by omega) (by omega), if_neg (by omega), jck_of (by omega) (by omega) (by omega) (by omega)]
          by_cases d : x < st
          · rw [if_pos d]; exact J784
          · rw [if_neg d, jck_of (by omega) (by omega) (by omega) (by omega), if_pos (by omega)]; exact J784
        · rw [show x + 1 - 1 = x by omega]
          rcases i2 with ⟨h1, h2, h3⟩ | ⟨h1, h2, h3⟩ <;> omega
        · show (if 0 ≤ v.1 then v.1 else cL st m x) = cF st m a
          rcases i2 with ⟨h1, h2, h3⟩ | ⟨h1, h2, h3⟩
          · rw [if_pos (by omega)]; exact h2
          · rw [if_neg (by omega)]; omega
        · show cL st m x = cL st m (x + 1 - 1)
          rw [show x + 1 - 1 = x by omega]
      · have e : cL st m x = cL st m (x - 1) := by omega
        refine ⟨v, ?_, by omega, ?_⟩
        · show f_L_law_L751_b fu st ln m n _ _ v.1 v.2 x = _
          unfold f_L_law_L751_b
          rw [jix_of (by omega) (by omega), r1, jck_of (by omega) (by omega) (by omega) (by omega), if_neg (by omega), jck_of (by omega) (by omega) (by omega) (by omega), if_neg (by omega), jck_of (by omega) (by omega) (by omega) (by omega), if_neg (by omega)]
        · rw [show x + 1 - 1 = x by omega, e]; exact i2)
    (b + 1 - a).toNat fu (-1, -1) a (by omega) (by omega) ⟨by omega, Or.inr ⟨by have L0 := cL_cs st m (a - 1) m0; omega, rfl, rfl⟩⟩
  have e' : f_L_law_L751 fu st ln m n K fu (-1) (-1) a = K p.1 p.2 := e
  rw [e']
  rw [show b + 1 - 1 = b by omega] at i2
  rcases i2 with ⟨h1, h2, h3⟩ | ⟨h1, h2, h3⟩
  · rw [if_pos h1, if_pos h1, h2, h3]
  · rw [if_neg (by omega), if_neg (by omega), h2, h3]
theorem a_cut {J : JT} {st m : Int} (hE : OKE (f_L_law_J1390 fu d_le xc i J)) (hL : LST lq ln se tr fi la sh ac no) (hH : HS ol si) (hU : AC u_ac) (s0 : 0 ≤ st) (s1 : st < 60) (m0 : 1 ≤ m) (m1 : m ≤ 8) (hf : 2000 ≤ fu) :
    GD (f_L_law_L726 fu st (f_L_law_X911 fu d_le xc i st J) fu se tr fi la sh ac no u_se u_tr u_fi u_la u_sh u_ac u_no p_eh p_we p_hf ol si k_se k_tr k_fi k_la k_sh k_ac k_no lq ln lh m 0 0) := by
  have hI := hL.2.1
  have n0 := hI.1.1
  have n12 := hL.2.2.2.1
  have z0 := cN_0 fi la st m
  have hcn := cN_le fi la st m (i := 0) (j := no) (by omega) (by omega)
  obtain ⟨p, e, i1, i2, i3, i4⟩ := loop_upI (L := fun q (v : (Int → Int) × Int) x => f_L_law_L726 fu st (f_L_law_X911 fu d_le xc i st J) q se tr fi la sh ac no u_se u_tr u_fi u_la u_sh u_ac u_no p_eh p_we p_hf ol si k_se k_tr k_fi k_la k_sh k_ac k_no lq v.1 lh m v.2 x) (fun v => f_L_law_X911 fu d_le xc i st J se tr fi la sh ac no u_se u_tr u_fi u_la u_sh u_ac u_no p_eh p_we p_hf ol si k_se k_tr k_fi k_la k_sh k_ac k_no lq v.1 lh m v.2)
    (fun x v => 0 ≤ x ∧ v.2 = cN fi la st m x ∧ (∀ j, x ≤ j → j < no → lR v.1 j = cR tr fi la sh ac j) ∧ (∀ j, 0 ≤ j → j < v.2 → ∃ y, 0 ≤ y ∧ y < x ∧ cF st m (fi y) ≤ cL st m (la y) ∧ cN fi la st m y = j ∧ lR v.1 j = (100 * cF st m (fi y) + tr y, cL st m (la y), sh y, ac y))) no
    (fun q v hI => by
      show f_L_law_L726_b fu st _ _ se tr fi la sh ac no u_se u_tr u_fi u_la u_sh u_ac u_no p_eh p_we p_hf ol si k_se k_tr k_fi k_la k_sh k_ac k_no lq v.1 lh m v.2 no = _
      unfold f_L_law_L726_b
      rw [jix_of (by omega) (by omega), hL.1.2.1, jck_of (by omega) (by omega) (by omega) (by omega), if_pos (by omega)])
    (fun q v x hx hv => by
      obtain ⟨i1, i2, i3, i4⟩ := hv
      obtain ⟨a1, a2, a3, a4, a5, a6, a7⟩ := hI.1.2.2 x i1 hx
      have h60 := hL.2.2.2.2 x i1 hx
      have hac := hI.2.1 x i1 (by omega)
      obtain ⟨r0, r1, r2, r3⟩ := lr4 (i3 x (by omega) hx)
      have hs := cN_s fi la st m i1
      have hc0 := cN_le fi la st m (i := 0) (j := x) (by omega) (by omega)
      have hb := cFL_in (x1 := st) (x2 := m) a3 a4 a5 s0 m0
      have F := cF_cs st m (fi x) m0
      have L1 := cL_cs st m (la x) m0
      have hgo : f_L_law_L726 fu st (f_L_law_X911 fu d_le xc i st J) (q + 1) se tr fi la sh ac no u_se u_tr u_fi u_la u_sh u_ac u_no p_eh p_we p_hf ol si k_se k_tr k_fi k_la k_sh k_ac k_no lq v.1 lh m v.2 x = f_L_law_X827 fu se tr fi la sh ac no u_se u_tr u_fi u_la u_sh u_ac u_no p_eh p_we p_hf ol si lq v.1 lh m v.2 x k_se k_tr k_fi k_la k_sh k_ac k_no (f_L_law_L726 fu st (f_L_law_X911 fu d_le xc i st J) q) (if cF st m (fi x) ≤ cL st m (la x) then cF st m (fi x) else -1) (if cF st m (fi x) ≤ cL st m (la x) then cL st m (la x) else -1) := by
        show f_L_law_L726_b fu st _ _ se tr fi la sh ac no u_se u_tr u_fi u_la u_sh u_ac u_no p_eh p_we p_hf ol si k_se k_tr k_fi k_la k_sh k_ac k_no lq v.1 lh m v.2 x = _
        unfold f_L_law_L726_b
        rw [jix_of (by omega) (by omega), hL.1.2.1, jck_of (by omega) (by omega) (by omega) (by omega), if_neg (by omega), jix_of (by omega) (by omega), r0, jre_of (by omega) (by omega) (by omega) (by omega), show (100 * fi x + tr x) / 100 = fi x by omega, a_L751 r1 i1 (by omega) a3 a4 h60 s0 s1 m0 m1 (by omega)]
      by_cases c : cF st m (fi x) ≤ cL st m (la x)
      · rw [if_pos c] at hs
        rw [if_pos c, if_pos c] at hgo
        refine ⟨(uI (uI (uI (uI v.1 (5 * v.2 + 2) (sh x)) (5 * v.2 + 3) (ac x)) (5 * v.2) (100 * cF st m (fi x) + tr x)) (5 * v.2 + 1) (cL st m (la x)), v.2 + 1), ?_, by omega, by show v.2 + 1 = _; omega, fun j j0 j1 => ?_, fun j j0 j1 => ?_⟩
        · refine hgo.trans ?_
          unfold f_L_law_X827
          rw [jck_of (by omega) (by omega) (by omega) (by omega), if_pos (by omega), jix_of (by omega) (by omega), r0, jre_of (by omega) (by omega) (by omega) (by omega), jix_of (by omega) (by omega), jix_of (by omega) (by omega), jix_of (by omega) (by omega), jix_of (by omega) (by omega), jix_of (by omega) (by omega), jix_of (by omega) (by omega), r2, show (100 * fi x + tr x) % 100 = tr x by omega, uI_n v.1 (sh x) (show 5 * x + 3 ≠ 5 * v.2 + 2 by omega), r3]
        · refine Eq.trans ?_ (i3 j (by omega) j1)
          unfold lR
          simp (disch := omega) only [uI_n]
        · by_cases d : j = v.2
          · refine ⟨x, i1, by omega, c, by omega, ?_⟩
            rw [d]
            show lR (uI (uI (uI (uI v.1 (5 * v.2 + 2) (sh x)) (5 * v.2 + 3) (ac x)) (5 * v.2) (100 * cF st m (fi x) + tr x)) (5 * v.2 + 1) (cL st m (la x))) v.2 = _
            unfold lR
            rw [uI_n _ _ (show 5 * v.2 ≠ 5 * v.2 + 1 by omega), uI_s, uI_s, uI_n _ _ (show 5 * v.2 + 2 ≠ 5 * v.2 + 1 by omega), uI_n _ _ (show 5 * v.2 + 2 ≠ 5 * v.2 by omega), uI_n _ _ (show 5 * v.2 + 2 ≠ 5 * v.2 + 3 by omega), uI_s, uI_n _ _ (show 5 * v.2 + 3 ≠ 5 * v.2 + 1 by omega), uI_n _ _ (show 5 * v.2 + 3 ≠ 5 * v.2 by omega), uI_s]
          · have j1 : j < v.2 + 1 := j1
            obtain ⟨y, y0, y1, y2, y3, y4⟩ := i4 j j0 (by omega)
            refine ⟨y, y0, by omega, y2, y3, Eq.trans ?_ y4⟩
            unfold lR
            simp (disch := omega) only [uI_n]
      · rw [if_neg c] at hs
        rw [if_neg c, if_neg c] at hgo
        refine ⟨(v.1, v.2), ?_, by omega, by show v.2 = _; omega, fun j j0 j1 => i3 j (by omega) j1, fun j j0 j1 => ?_⟩
        · refine hgo.trans ?_
          unfold f_L_law_X827
          rw [jck_of (by omega) (by omega) (by omega) (by omega), if_neg (by omega)]
        · obtain ⟨y, y0, y1, y2⟩ := i4 j j0 j1
          exact ⟨y, y0, by omega, y2⟩)
    no.toNat fu (ln, 0) 0 (by omega) (by omega) ⟨by omega, z0.symm, fun j j0 j1 => hL.1.2.2 j j0 j1, fun j j0 j1 => absurd j1 (by show ¬ j < 0; omega)⟩
  have e' : f_L_law_L726 fu st (f_L_law_X911 fu d_le xc i st J) fu se tr fi la sh ac no u_se u_tr u_fi u_la u_sh u_ac u_no p_eh p_we p_hf ol si k_se k_tr k_fi k_la k_sh k_ac k_no lq ln lh m 0 0 = f_L_law_X911 fu d_le xc i st J se tr fi la sh ac no u_se u_tr u_fi u_la u_sh u_ac u_no p_eh p_we p_hf ol si k_se k_tr k_fi k_la k_sh k_ac k_no lq p.1 lh m p.2 := e
  rw [e', i2]
  rw [i2] at i4
  obtain ⟨se', tr', fi', la', sh', ac', v_se, v_tr, v_fi, v_la, v_sh, v_ac, v_no, ol', si', k1, k2, k3, k4, k5, k6, k7, e1, hse, hI', hH', hU', hrow⟩ := ca_cut (fu := fu) (se := se) (u_se := u_se) (u_tr := u_tr) (u_fi := u_fi) (u_la := u_la) (u_sh := u_sh) (u_ac := u_ac) (u_no := u_no) (k_se := k_se) (k_tr := k_tr) (k_fi := k_fi) (k_la := k_la) (k_sh := k_sh) (k_ac := k_ac) (k_no := k_no) (x1 := st) (x2 := m) hI hH hU s0 (by omega) m0 (by omega) hf
  unfold f_L_law_X911
  rw [e1, jb24_s, jix_of (by omega) (by omega), hL.1.2.1, jck_of (by omega) (by omega) (by omega) (by omega), if_pos rfl, jix_of (by omega) (by omega)]
  obtain ⟨ln2, es, es1, es2⟩ := L_sortC (fu := fu) (lq := uI lq 4 (cN fi la st m no)) (ln := p.1) (uI_s _ _ _) hI' (by omega) (fun j j0 j1 => by
    obtain ⟨y, y0, y1, y2, y3, y4⟩ := i4 j j0 j1
    obtain ⟨q, q0, q1, q2⟩ := hrow y y0 y1 y2
    exact ⟨q, q0, q1, y4.trans q2.symm⟩) (fun j k j0 jk k1 => by
    obtain ⟨y, y0, y1, y2, y3, y4⟩ := i4 j j0 (by omega)
    obtain ⟨x, x0, x1, x2, x3, x4⟩ := i4 k (by omega) k1
    have g1 : p.1 (5 * j) = 100 * cF st m (fi y) + tr y := congrArg Prod.fst y4
    have g2 : p.1 (5 * k) = 100 * cF st m (fi x) + tr x := congrArg Prod.fst x4
    have hyx : y < x := by
      by_cases h : y < x
      · exact h
      · have := cN_le fi la st m (i := x) (j := y) (by omega) (by omega)
        omega
    obtain ⟨a1, a2, -⟩ := hI.1.2.2 y y0 y1
    obtain ⟨b1, b2, -⟩ := hI.1.2.2 x x0 x1
    by_cases h : tr y = tr x
    · have hd := hI.2.2.2 y x y0 hyx x1 h
      have := cLF (x1 := st) (x2 := m) hd m0
      omega
    · omega) (by omega)
  rw [es, jb_s]
  obtain ⟨q0, q1, q2, q3⟩ := hL.1.1
  refine hE _ _ _ _ _ _ _ _ _ _ _ _ _ _ _ _ _ _ _ _ _ _ _ _ _ _ _ _ _ ⟨⟨⟨?_, ?_, ?_, ?_⟩, uI_s _ _ _, es1⟩, hI', SE_ext hL.2.2.1 hse, by omega, fun k k0 k1 => ?_⟩ hH' hU'
  · rw [uI_n _ _ (by omega), hse 0 (by omega) (by omega)]; exact q0
  · rw [uI_n _ _ (by omega), hse 1 (by omega) (by omega)]; exact q1
  · rw [uI_n _ _ (by omega), hse 2 (by omega) (by omega)]; exact q2
  · rw [uI_n _ _ (by omega), hse 3 (by omega) (by omega)]; exact q3
  · obtain ⟨j, j0, j1, ej⟩ := es2 k k0 k1
    obtain ⟨y, y0, y1, y2, y3, y4⟩ := i4 j j0 j1
    have h := (es1 k k0 k1).symm.trans (ej.trans y4)
    have h1 : la' k = cL st m (la y) := congrArg (fun v : Int × Int × Int × Int => v.2.1) h
    have h60 := hL.2.2.2.2 y y0 y1
    have L1 := cL_cs st m (la y) m0
    omega
end Q79
