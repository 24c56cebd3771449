/-! best shift, greatest run -/
theorem uI_uI {α : Type} (f : Int → α) (i : Int) (x y : α) : uI (uI f i x) i y = uI f i y := by
  funext q
  unfold uI
  by_cases c : q = i
  · rw [if_pos c, if_pos c]
  · rw [if_neg c, if_neg c, if_neg c]
theorem uI_id {α : Type} (f : Int → α) (i : Int) : uI f i (f i) = f := by
  funext q
  unfold uI
  by_cases c : q = i
  · rw [if_pos c, c]
  · rw [if_neg c]
theorem EQn.sy {n : Int} {f g : Int → Int} (h : EQn n f g) : EQn n g f := fun q h1 h2 => (h q h1 h2).symm
def bS (W : Int → Int) (i : Int) (p : Int × Int) : Int × Int := if p.2 ≤ W i then p else (i, W i)
section Q58
variable {fu : Nat} {st se tr fi la sh ac ho p_eh p_hf u_se u_tr u_fi u_la u_sh u_ac : Int → Int} {no u_no p_we : Int}
theorem l_bestS {x1 x2 : Int} {W : Int → Int} (hN : NT tr fi la sh no) (hE : SE se) (hA : AC ac) (c1 : 0 ≤ x1) (c2 : x1 < no) (hx : -1000 ≤ x2 ∧ x2 ≤ 1000) (hW : ∀ v, W v = wkN (HO se tr fi la (uI sh x1 v) ac no) (se 3)) (hf : 1000 ≤ fu) :
    ∃ sh' eh' we' hf', f_X4_bestShift_L45 fu x1 (f_X4_bestShift_X102 fu x2) fu se tr fi la sh ac no p_eh p_we p_hf 0 101 0 = some (if x2 ≠ 0 then (fdA (bS W) (0, 101) 0 13).2 else (fdA (bS W) (0, 101) 0 13).1, se, tr, fi, la, sh', ac, no, eh', we', hf') := by
  have n1 := hN.2.1
  obtain ⟨p, e, i1, i2, i3, i4⟩ := loop_upI (L := fun q (s : (Int → Int) × (Int → Int) × Int × (Int → Int) × Int × Int) i => f_X4_bestShift_L45 fu x1 (f_X4_bestShift_X102 fu x2) q se tr fi la s.1 ac no s.2.1 s.2.2.1 s.2.2.2.1 s.2.2.2.2.1 s.2.2.2.2.2 i) (fun s => f_X4_bestShift_X102 fu x2 se tr fi la s.1 ac no s.2.1 s.2.2.1 s.2.2.2.1 s.2.2.2.2.1 s.2.2.2.2.2)
    (fun i s => 0 ≤ i ∧ (s.1 = sh ∨ ∃ w, s.1 = uI sh x1 w) ∧ s.2.2.2.2 = fdA (bS W) (0, 101) 0 i ∧ (0 ≤ s.2.2.2.2.2 ∧ s.2.2.2.2.2 ≤ 101)) 13
    (fun q s hI => by
      show f_X4_bestShift_L45_b fu x1 _ _ se tr fi la s.1 ac no s.2.1 s.2.2.1 s.2.2.2.1 s.2.2.2.2.1 s.2.2.2.2.2 13 = _
      unfold f_X4_bestShift_L45_b
      rw [jck_of (by omega) (by omega) (by omega) (by omega), if_pos (by omega)])
    (fun q s i hi hI => by
      obtain ⟨i1, i2, i3, i4, i5⟩ := hI
      have eu : uI s.1 x1 i = uI sh x1 i := by
        rcases i2 with h | ⟨w, h⟩
        · rw [h]
        · rw [h, uI_uI]
      have hN' : NT tr fi la (uI sh x1 i) no := by
        refine ⟨hN.1, n1, fun k k0 k1 => ?_⟩
        obtain ⟨a1, a2, a3, a4, a5, a6, a7⟩ := hN.2.2 k k0 k1
        refine ⟨a1, a2, a3, a4, a5, ?_⟩
        unfold uI
        by_cases c : k = x1
        · rw [if_pos c]; omega
        · rw [if_neg c]; exact ⟨a6, a7⟩
      obtain ⟨e1, o1, e, g1, g2⟩ := q_perforate (fu := fu) (eh := s.2.1) (ho := s.2.2.2.1) (we := s.2.2.1) hN' hE hA (by omega)
      have w1 : 0 ≤ se 3 := by have := hE.2.2.2.2.2.2; omega
      have w2 := hE.2.2.2.2.2.2.2
      have hw := wkN_in (HO se tr fi la (uI sh x1 i) ac no) (se 3)
      rw [← hW i] at hw
      refine ⟨(uI sh x1 i, e1, se 3, o1, bS W i s.2.2.2.2), ?_, by omega, Or.inr ⟨i, rfl⟩, by rw [fdA_s _ _ i1, ← i3], ?_⟩
      · show f_X4_bestShift_L45_b fu x1 _ _ se tr fi la s.1 ac no s.2.1 s.2.2.1 s.2.2.2.1 s.2.2.2.2.1 s.2.2.2.2.2 i = f_X4_bestShift_L45 fu x1 (f_X4_bestShift_X102 fu x2) q se tr fi la (uI sh x1 i) ac no e1 (se 3) o1 (bS W i s.2.2.2.2).1 (bS W i s.2.2.2.2).2 (i + 1)
        unfold f_X4_bestShift_L45_b
        rw [jck_of (by omega) (by omega) (by omega) (by omega), if_neg (by omega), q_giveShift c1 c2 n1, jb_s, eu, e, jb3_s, q_weakSteps w1 w2 (by omega), jb_s, wkN_congr g1, ← hW i, jck_of (by omega) (by omega) (by omega) (by omega)]
        unfold bS
        by_cases c : s.2.2.2.2.2 ≤ W i
        · rw [if_pos c, if_pos c]
        · rw [if_neg c, if_neg c]
      · show 0 ≤ (bS W i s.2.2.2.2).2 ∧ (bS W i s.2.2.2.2).2 ≤ 101
        unfold bS
        by_cases c : s.2.2.2.2.2 ≤ W i
        · rw [if_pos c]; exact ⟨i4, i5⟩
        · rw [if_neg c]; exact ⟨hw.1, by show W i ≤ 101; omega⟩)
    13 fu (sh, p_eh, p_we, p_hf, 0, 101) 0 (by omega) (by omega) ⟨by omega, Or.inl rfl, by rw [fdA_0], by show (0:Int) ≤ 101; omega, by show (101:Int) ≤ 101; omega⟩
  have e' : f_X4_bestShift_L45 fu x1 (f_X4_bestShift_X102 fu x2) fu se tr fi la sh ac no p_eh p_we p_hf 0 101 0 = f_X4_bestShift_X102 fu x2 se tr fi la p.1 ac no p.2.1 p.2.2.1 p.2.2.2.1 p.2.2.2.2.1 p.2.2.2.2.2 := e
  refine ⟨p.1, p.2.1, p.2.2.1, p.2.2.2.1, ?_⟩
  rw [e', ← i3]
  unfold f_X4_bestShift_X102
  rw [jck_of (by omega) (by omega) (by omega) (by omega)]
  by_cases c : x2 = 0
  · rw [if_neg (by omega), if_neg (by omega)]
  · rw [if_pos c, if_pos c]
theorem l_bestM {x1 x2 v4 : Int} {W : Int → Int} (hS : RSt st se tr fi la sh ac no) (c1 : 0 ≤ x1) (c2 : x1 < no) (hv4 : v4 = sh x1) (hx : -1000 ≤ x2 ∧ x2 ≤ 1000) (hW : ∀ v, W v = wkN (HO se tr fi la (uI sh x1 v) ac no) (se 3)) (hf : 1000 ≤ fu) :
    ∃ ho' st', f_X5_bestShift_L50 fu x1 (f_X5_bestShift_X109 fu x1 x2 v4) fu ho st (-6) 101 0 = some (if x2 ≠ 0 then (fdA (bS W) (-6, 101) 0 13).2 else (fdA (bS W) (-6, 101) 0 13).1, ho', st') ∧ RSt st' se tr fi la sh ac no := by
  have hI := hS.inv
  have hE := hS.2.2.1
  have n1 := hI.1.2.1
  obtain ⟨p, e, i1, ⟨shf, i2, i2'⟩, i3, i4⟩ := loop_upI (L := fun q (s : (Int → Int) × (Int → Int) × Int × Int) i => f_X5_bestShift_L50 fu x1 (f_X5_bestShift_X109 fu x1 x2 v4) q s.1 s.2.1 s.2.2.1 s.2.2.2 i) (fun s => f_X5_bestShift_X109 fu x1 x2 v4 s.1 s.2.1 s.2.2.1 s.2.2.2)
    (fun i s => 0 ≤ i ∧ (∃ sh', (sh' = sh ∨ ∃ w, sh' = uI sh x1 w) ∧ RLm s.2.1 se tr fi la sh' ac no) ∧ s.2.2 = fdA (bS W) (-6, 101) 0 i ∧ (0 ≤ s.2.2.2 ∧ s.2.2.2 ≤ 101)) 13
    (fun q s hI => by
      show f_X5_bestShift_L50_b fu x1 _ _ s.1 s.2.1 s.2.2.1 s.2.2.2 13 = _
      unfold f_X5_bestShift_L50_b
      rw [jck_of (by omega) (by omega) (by omega) (by omega), if_pos (by omega)])
    (fun q s i hi hI' => by
      obtain ⟨i1, ⟨sh', i2, i2'⟩, i3, i4, i5⟩ := hI'
      have eu : uI sh' x1 i = uI sh x1 i := by
        rcases i2 with h | ⟨w, h⟩
        · rw [h]
        · rw [h, uI_uI]
      have r := RLm_3 (v := i) i2' c1
      rw [eu] at r
      have hI2 := INV_sh (x := x1) (v := i) hI i1 (by omega)
      obtain ⟨o1, e⟩ := m_weakMany (fu := fu) (ho := s.1) r hI2.1 hE hI2.2.1 (by omega)
      have hw := wkN_in (HO se tr fi la (uI sh x1 i) ac no) (se 3)
      rw [← hW i] at hw e
      refine ⟨(o1, uI s.2.1 (5 + 5 * x1 + 3) i, bS W i s.2.2), ?_, by omega, ⟨_, Or.inr ⟨i, rfl⟩, r⟩, by rw [fdA_s _ _ i1, ← i3], ?_⟩
      · show f_X5_bestShift_L50_b fu x1 _ _ s.1 s.2.1 s.2.2.1 s.2.2.2 i = f_X5_bestShift_L50 fu x1 (f_X5_bestShift_X109 fu x1 x2 v4) q o1 (uI s.2.1 (5 + 5 * x1 + 3) i) (bS W i s.2.2).1 (bS W i s.2.2).2 (i + 1)
        unfold f_X5_bestShift_L50_b f_X5_bestShift_J85
        rw [jck_of (by omega) (by omega) (by omega) (by omega), if_neg (by omega), m_set c1 (by omega) (by omega) (by omega), jb_s, e, jb2_s, jck_of (by omega) (by omega) (by omega) (by omega)]
        unfold bS
        by_cases c : s.2.2.2 ≤ W i
        · rw [if_pos c, if_pos c, jck_of (by omega) (by omega) (by omega) (by omega), if_pos c]
        · rw [if_neg c, if_neg c, jck_of (by omega) (by omega) (by omega) (by omega), if_neg c]
      · show 0 ≤ (bS W i s.2.2).2 ∧ (bS W i s.2.2).2 ≤ 101
        unfold bS
        by_cases c : s.2.2.2 ≤ W i
        · rw [if_pos c]; exact ⟨i4, i5⟩
        · rw [if_neg c]; exact ⟨hw.1, by show W i ≤ 101; omega⟩)
    13 fu (ho, st, -6, 101) 0 (by omega) (by omega) ⟨by omega, ⟨sh, Or.inl rfl, hS.1⟩, by rw [fdA_0], by show (0:Int) ≤ 101; omega, by show (101:Int) ≤ 101; omega⟩
  have e' : f_X5_bestShift_L50 fu x1 (f_X5_bestShift_X109 fu x1 x2 v4) fu ho st (-6) 101 0 = f_X5_bestShift_X109 fu x1 x2 v4 p.1 p.2.1 p.2.2.1 p.2.2.2 := e
  have r := RLm_3 (v := sh x1) i2' c1
  have eu : uI shf x1 (sh x1) = sh := by
    rcases i2 with h | ⟨w, h⟩
    · rw [h, uI_id]
    · rw [h, uI_uI, uI_id]
  rw [eu] at r
  refine ⟨p.1, uI p.2.1 (5 + 5 * x1 + 3) (sh x1), ?_, RSt_of r hE hI⟩
  rw [e', ← i3]
  unfold f_X5_bestShift_X109
  rw [m_set c1 (by omega) (by omega) (by omega), jb_s, hv4, jck_of (by omega) (by omega) (by omega) (by omega)]
  by_cases c : x2 = 0
  · rw [if_neg (by omega), if_neg (by omega)]
  · rw [if_pos c, if_pos c]
theorem bS_same {W : Int → Int} (hW : W 0 ≤ 100) : fdA (bS W) (0, 101) 0 13 = fdA (bS W) (-6, 101) 0 13 := by
  refine ((fdA_rel (f := bS W) (g := bS W) (s0 := ((0 : Int), (101 : Int))) (t0 := ((-6 : Int), (101 : Int))) (a := 0) (i := 13) (I := fun i (s t : Int × Int) => s.2 = t.2 ∧ (i = 0 → s.2 = 101) ∧ (0 < i → s = t)) (by omega : (0 : Int) ≤ 13) ⟨rfl, fun _ => rfl, fun h => by omega⟩ (fun j s t h1 h2 h3 => ?_)).2.2 (by omega))
  obtain ⟨k1, k2, k3⟩ := h3
  by_cases c : j = 0
  · subst c
    have := k2 rfl
    unfold bS
    rw [if_neg (by omega), if_neg (by omega)]
    exact ⟨rfl, fun h => by omega, fun _ => rfl⟩
  · have := k3 (by omega)
    subst this
    exact ⟨rfl, fun h => by omega, fun _ => rfl⟩
theorem op_bestShift {x1 x2 : Int} (h1 : rg x1) (h2 : rg x2) (hS : RSt st se tr fi la sh ac no) (hAu : AC u_ac) (hf : 2000 ≤ fu) :
    ∃ r u_se' u_tr' u_fi' u_la' u_sh' u_ac' u_no' eh' we' hf' ho' st', f_X4_bestShift fu se tr fi la sh ac no u_se u_tr u_fi u_la u_sh u_ac u_no p_eh p_we p_hf x1 x2 = some (r, u_se', u_tr', u_fi', u_la', u_sh', u_ac', u_no', eh', we', hf') ∧ f_X5_bestShift fu ho st x1 x2 = some (r, ho', st') ∧ RSt st' se tr fi la sh ac no ∧ AC u_ac' := by
  have a1 := h1.1
  have a2 := h1.2
  have b1 := h2.1
  have b2 := h2.2
  have hI := hS.inv
  have hE := hS.2.2.1
  have hR := hS.1
  have n0 := hI.1.1
  have n1 := hI.1.2.1
  unfold f_X4_bestShift f_X5_bestShift f_X5_bestShift_J17
  by_cases c : 0 ≤ x1 ∧ x1 < no
  · obtain ⟨c1, c2⟩ := c
    rw [q_has_t c1 c2 n1, jb_s, m_isNote_t hR c1 c2 n1, jb_s, jb_s, jck_of (by omega) (by omega) (by omega) (by omega), if_pos (show (1 : Int) ≠ 0 by omega), jck_of (by omega) (by omega) (by omega) (by omega), if_neg (show ¬ (1 : Int) = 0 by omega)]
    by_cases d : 0 ≤ x2 ∧ x2 ≤ 1
    · have hS' : RSt st (jcpy se u_se 4) (jcpy tr u_tr 40) (jcpy fi u_fi 40) (jcpy la u_la 40) (jcpy sh u_sh 40) (jcpy ac u_ac 40) no := RSt_ext hS (EQn_rf _ _) (EQn_cpy _ _ _) (EQn_cpy _ _ _) (EQn_cpy _ _ _) (EQn_cpy _ _ _) (EQn_cpy _ _ _) (EQn_cpy _ _ _)
      obtain ⟨W, hW⟩ : ∃ W : Int → Int, W = fun v => wkN (HO (jcpy se u_se 4) (jcpy tr u_tr 40) (jcpy fi u_fi 40) (jcpy la u_la 40) (uI (jcpy sh u_sh 40) x1 v) (jcpy ac u_ac 40) no) (jcpy se u_se 4 3) := ⟨_, rfl⟩
      obtain ⟨sh', eh', we', hf', e1⟩ := l_bestS (fu := fu) (x1 := x1) (x2 := x2) (p_eh := p_eh) (p_we := p_we) (p_hf := p_hf) (W := W) hS'.2.1 hS'.2.2.1 hS'.2.2.2.1 c1 c2 (by omega) (fun v => by rw [hW]) (by omega)
      obtain ⟨ho', st', e2, hS2⟩ := l_bestM (fu := fu) (x1 := x1) (x2 := x2) (ho := ho) (v4 := sh x1) (W := W) hS' c1 c2 (by rw [jcpy_in _ _ c1 (by omega)]) (by omega) (fun v => by rw [hW]) (by omega)
      rw [q_isIn_t d.1 d.2 (by omega) (by omega), jb_s, m_in_t d.1 d.2 (by omega) (by omega), jb_s, jck_of (by omega) (by omega) (by omega) (by omega), if_pos (show (1 : Int) ≠ 0 by omega), jck_of (by omega) (by omega) (by omega) (by omega), if_pos (show (1 : Int) ≠ 0 by omega), q_become hI.2.1 (by omega), jb7_s, e1, m_p3 hR c1 c2 n1, jb_s, e2, bS_same (W := W) (by rw [hW]; exact (wkN_in _ _).2)]
      exact ⟨_, _, _, _, _, _, _, _, _, _, _, _, _, rfl, rfl, RSt_ext hS2 (EQn_rf _ _) (EQn_cpy _ _ _).sy (EQn_cpy _ _ _).sy (EQn_cpy _ _ _).sy (EQn_cpy _ _ _).sy (EQn_cpy _ _ _).sy (EQn_cpy _ _ _).sy, hS'.2.2.2.1⟩
    · rw [q_isIn_f (by omega) b1 b2 (by omega) (by omega) (by omega) (by omega), jb_s, m_in_f (by omega) b1 b2 (by omega) (by omega) (by omega) (by omega), jb_s, jck_of (by omega) (by omega) (by omega) (by omega), if_neg (show ¬ (0 : Int) ≠ 0 by omega), jck_of (by omega) (by omega) (by omega) (by omega), if_neg (show ¬ (0 : Int) ≠ 0 by omega), jck_of (by omega) (by omega) (by omega) (by omega), if_neg (show ¬ (1 : Int) = 0 by omega)]
      exact ⟨_, _, _, _, _, _, _, _, _, _, _, _, _, rfl, rfl, hS, hAu⟩
  · rw [q_has_f (by omega) n0 n1 a1 a2, jb_s, m_isNote_f hR (by omega) n0 n1 a1 a2, jb_s, jb_s, jck_of (by omega) (by omega) (by omega) (by omega), if_neg (show ¬ (0 : Int) ≠ 0 by omega), jck_of (by omega) (by omega) (by omega) (by omega), if_pos (show (0 : Int) = 0 from rfl), jck_of (by omega) (by omega) (by omega) (by omega), if_pos (show (0 : Int) = 0 from rfl)]
    exact ⟨_, _, _, _, _, _, _, _, _, _, _, _, _, rfl, rfl, hS, hAu⟩
end Q58
