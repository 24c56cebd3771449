/-! greatest run, free goal -/
section Q59
variable {fu : Nat} {st se tr fi la sh ac ho p_eh p_hf u_se u_tr u_fi u_la u_sh u_ac : Int → Int} {no u_no p_we : Int}
theorem SE_run {v : Int} (hE : SE se) (h1 : 1 ≤ v) (h2 : v ≤ 9) : SE (uI se 0 v) := by
  obtain ⟨b1, b2, b3, b4, b5, b6, b7, b8⟩ := hE
  unfold SE uI
  refine ⟨?_, ?_, ?_, ?_, ?_, ?_, ?_, ?_⟩ <;> split <;> omega
theorem RLm_0 {v : Int} (hR : RLm st se tr fi la sh ac no) : RLm (uI st 0 v) (uI se 0 v) tr fi la sh ac no := by
  obtain ⟨⟨r0, r1, r2, r3⟩, r4, r5⟩ := hR
  refine ⟨⟨by rw [uI_s, uI_s], ?_, ?_, ?_⟩, ?_, fun k k0 k1 => ?_⟩
  · rw [uI_n _ _ (by omega), uI_n _ _ (by omega)]; exact r1
  · rw [uI_n _ _ (by omega), uI_n _ _ (by omega)]; exact r2
  · rw [uI_n _ _ (by omega), uI_n _ _ (by omega)]; exact r3
  · rw [uI_n _ _ (by omega)]; exact r4
  · rw [uI_n _ _ (by omega), uI_n _ _ (by omega), uI_n _ _ (by omega), uI_n _ _ (by omega), uI_n _ _ (by omega)]
    exact r5 k k0 k1
theorem l_runS {V : Int → Int} (hN : NT tr fi la sh no) (hE : SE se) (hA : AC ac) (hV : ∀ v, V v = wkN (HO (uI se 0 v) tr fi la sh ac no) (uI se 0 v 3)) (hf : 1000 ≤ fu) :
    ∀ (n fuel : Nat) (i : Int) (s_ e h : Int → Int) (w : Int), i = n → i ≤ 9 → n < fuel → (s_ = se ∨ ∃ w, s_ = uI se 0 w) → (∀ v, i < v → v ≤ 9 → V v ≠ 0) →
      ∃ r se' eh' we' hf', f_X4_greatestRun_L17 fu (f_X4_greatestRun_X64 fu) fuel s_ tr fi la sh ac no e w h i = some (r, se', tr, fi, la, sh, ac, no, eh', we', hf') ∧ ((r = -6 ∧ ∀ v, 1 ≤ v → v ≤ 9 → V v ≠ 0) ∨ (1 ≤ r ∧ r ≤ 9 ∧ V r = 0 ∧ ∀ v, r < v → v ≤ 9 → V v ≠ 0)) := by
  intro n
  induction n with
  | zero =>
    intro fuel i s_ e h w h1 h2 h3 h4 h5
    obtain ⟨q, rfl⟩ : ∃ q, fuel = q + 1 := ⟨fuel - 1, by omega⟩
    refine ⟨-6, s_, e, w, h, ?_, Or.inl ⟨rfl, fun v v1 v2 => h5 v (by omega) v2⟩⟩
    show f_X4_greatestRun_L17_b fu _ _ s_ tr fi la sh ac no e w h i = _
    unfold f_X4_greatestRun_L17_b
    rw [show jL (Int.toNat 0) = 1 from rfl, jix_of (by omega) (by omega), jck_of (by omega) (by omega) (by omega) (by omega), if_pos (by omega)]
    rfl
  | succ n ih =>
    intro fuel i s_ e h w h1 h2 h3 h4 h5
    obtain ⟨q, rfl⟩ : ∃ q, fuel = q + 1 := ⟨fuel - 1, by omega⟩
    have eu : uI s_ 0 i = uI se 0 i := by
      rcases h4 with g | ⟨w, g⟩
      · rw [g]
      · rw [g, uI_uI]
    have hE' := SE_run (v := i) hE (by omega) h2
    obtain ⟨e1, o1, e', g1, g2⟩ := q_perforate (fu := fu) (eh := e) (ho := h) (we := w) hN hE' hA (by omega)
    have w1 : 0 ≤ uI se 0 i 3 := by have := hE'.2.2.2.2.2.2; omega
    have w2 := hE'.2.2.2.2.2.2.2
    have hw := wkN_in (HO (uI se 0 i) tr fi la sh ac no) (uI se 0 i 3)
    rw [← hV i] at hw
    by_cases c : V i = 0
    · refine ⟨i, uI se 0 i, e1, uI se 0 i 3, o1, ?_, Or.inr ⟨by omega, h2, c, h5⟩⟩
      · show f_X4_greatestRun_L17_b fu _ _ s_ tr fi la sh ac no e w h i = _
        unfold f_X4_greatestRun_L17_b
        rw [show jL (Int.toNat 0) = 1 from rfl, jix_of (by omega) (by omega), jck_of (by omega) (by omega) (by omega) (by omega), if_neg (by omega), q_giveSetting (by omega) (by omega), jb_s, eu, e', jb3_s, q_weakSteps w1 w2 (by omega), jb_s, wkN_congr g1, ← hV i, jck_of (by omega) (by omega) (by omega) (by omega), if_neg (by omega)]
    · obtain ⟨r, se', eh', we', hf', er, hr⟩ := ih q (i + (-1)) (uI se 0 i) e1 o1 (uI se 0 i 3) (by omega) (by omega) (by omega) (Or.inr ⟨i, rfl⟩) (fun v v1 v2 => by
        by_cases d : v = i
        · rw [d]; exact c
        · exact h5 v (by omega) v2)
      refine ⟨r, se', eh', we', hf', ?_, hr⟩
      rw [← er]
      show f_X4_greatestRun_L17_b fu _ _ s_ tr fi la sh ac no e w h i = _
      unfold f_X4_greatestRun_L17_b
      rw [show jL (Int.toNat 0) = 1 from rfl, jix_of (by omega) (by omega), jck_of (by omega) (by omega) (by omega) (by omega), if_neg (by omega), q_giveSetting (by omega) (by omega), jb_s, eu, e', jb3_s, q_weakSteps w1 w2 (by omega), jb_s, wkN_congr g1, ← hV i, jck_of (by omega) (by omega) (by omega) (by omega), if_pos c]
theorem l_runM {V : Int → Int} (hS : RSt st se tr fi la sh ac no) (hV : ∀ v, V v = wkN (HO (uI se 0 v) tr fi la sh ac no) (uI se 0 v 3)) (hf : 1000 ≤ fu) :
    ∃ r ho' st', f_X5_greatestRun fu ho st = some (r, ho', st') ∧ RSt st' se tr fi la sh ac no ∧ ((r = -6 ∧ ∀ v, 1 ≤ v → v ≤ 9 → V v ≠ 0) ∨ (1 ≤ r ∧ r ≤ 9 ∧ V r = 0 ∧ ∀ v, r < v → v ≤ 9 → V v ≠ 0)) := by
  have hI := hS.inv
  have hE := hS.2.2.1
  have hR := hS.1
  unfold f_X5_greatestRun
  rw [jix_of (by omega) (by omega)]
  obtain ⟨p, e, i1, ⟨sef, i2, i2'⟩, i3⟩ := loop_upI (L := fun q (s : (Int → Int) × (Int → Int) × Int) i => f_X5_greatestRun_L12 fu (f_X5_greatestRun_X44 fu) q s.1 s.2.1 (st 0) s.2.2 i) (fun s => f_X5_greatestRun_X44 fu s.1 s.2.1 (st 0) s.2.2)
    (fun i s => 1 ≤ i ∧ (∃ s_, (s_ = se ∨ ∃ w, s_ = uI se 0 w) ∧ RLm s.2.1 s_ tr fi la sh ac no) ∧ ((s.2.2 = -6 ∧ ∀ v, 1 ≤ v → v < i → V v ≠ 0) ∨ (1 ≤ s.2.2 ∧ s.2.2 < i ∧ V s.2.2 = 0 ∧ ∀ v, s.2.2 < v → v < i → V v ≠ 0))) 10
    (fun q s hI => by
      show f_X5_greatestRun_L12_b fu _ _ s.1 s.2.1 (st 0) s.2.2 10 = _
      unfold f_X5_greatestRun_L12_b
      rw [jck_of (by omega) (by omega) (by omega) (by omega), if_pos (by omega)])
    (fun q s i hi hI' => by
      obtain ⟨i1, ⟨s_, i2, i2'⟩, i3⟩ := hI'
      have eu : uI s_ 0 i = uI se 0 i := by
        rcases i2 with h | ⟨w, h⟩
        · rw [h]
        · rw [h, uI_uI]
      have r := RLm_0 (v := i) i2'
      rw [eu] at r
      obtain ⟨o1, e⟩ := m_weakMany (fu := fu) (ho := s.1) r hI.1 (SE_run hE i1 (by omega)) hI.2.1 (by omega)
      rw [← hV i] at e
      have hw := wkN_in (HO (uI se 0 i) tr fi la sh ac no) (uI se 0 i 3)
      rw [← hV i] at hw
      by_cases c : V i = 0
      · refine ⟨(o1, uI s.2.1 0 i, i), ?_, by omega, ⟨_, Or.inr ⟨i, rfl⟩, r⟩, Or.inr ⟨i1, by show i < i + 1; omega, c, fun v v1 v2 => by exact absurd v1 (by show ¬ i < v; omega)⟩⟩
        show f_X5_greatestRun_L12_b fu _ _ s.1 s.2.1 (st 0) s.2.2 i = _
        unfold f_X5_greatestRun_L12_b
        rw [jck_of (by omega) (by omega) (by omega) (by omega), if_neg (by omega), jix_of (by omega) (by omega), e, jb2_s, jck_of (by omega) (by omega) (by omega) (by omega), if_neg (by omega)]
      · refine ⟨(o1, uI s.2.1 0 i, s.2.2), ?_, by omega, ⟨_, Or.inr ⟨i, rfl⟩, r⟩, ?_⟩
        · show f_X5_greatestRun_L12_b fu _ _ s.1 s.2.1 (st 0) s.2.2 i = _
          unfold f_X5_greatestRun_L12_b
          rw [jck_of (by omega) (by omega) (by omega) (by omega), if_neg (by omega), jix_of (by omega) (by omega), e, jb2_s, jck_of (by omega) (by omega) (by omega) (by omega), if_pos c]
        · have k : ∀ v, v < i + 1 → (v < i → V v ≠ 0) → V v ≠ 0 := fun v v1 v2 => by
            by_cases d : v = i
            · rw [d]; exact c
            · exact v2 (by omega)
          rcases i3 with ⟨j1, j2⟩ | ⟨j1, j2, j3, j4⟩
          · exact Or.inl ⟨j1, fun v v1 v2 => k v v2 (fun h => j2 v v1 h)⟩
          · exact Or.inr ⟨j1, by show s.2.2 < _; omega, j3, fun v v1 v2 => k v v2 (fun h => j4 v v1 h)⟩)
    9 fu (ho, st, -6) 1 (by omega) (by omega) ⟨by omega, ⟨se, Or.inl rfl, hR⟩, Or.inl ⟨rfl, fun v v1 v2 => by omega⟩⟩
  have e' : f_X5_greatestRun_L12 fu (f_X5_greatestRun_X44 fu) fu ho st (st 0) (-6) 1 = f_X5_greatestRun_X44 fu p.1 p.2.1 (st 0) p.2.2 := e
  have r := RLm_0 (v := se 0) i2'
  have eu : uI sef 0 (se 0) = se := by
    rcases i2 with h | ⟨w, h⟩
    · rw [h, uI_id]
    · rw [h, uI_uI, uI_id]
  rw [eu] at r
  refine ⟨p.2.2, p.1, uI p.2.1 0 (se 0), ?_, RSt_of r hE hI, ?_⟩
  · rw [e']
    unfold f_X5_greatestRun_X44
    rw [jix_of (by omega) (by omega), hR.s0]
  · rcases i3 with ⟨j1, j2⟩ | ⟨j1, j2, j3, j4⟩
    · exact Or.inl ⟨j1, fun v v1 v2 => j2 v v1 (by omega)⟩
    · exact Or.inr ⟨j1, by omega, j3, fun v v1 v2 => j4 v v1 (by omega)⟩
theorem op_greatestRun (hS : RSt st se tr fi la sh ac no) (hf : 2000 ≤ fu) :
    ∃ r u_se' u_tr' u_fi' u_la' u_sh' u_ac' u_no' eh' we' hf' ho' st', f_X4_greatestRun fu se tr fi la sh ac no u_se u_tr u_fi u_la u_sh u_ac u_no p_eh p_we p_hf = some (r, u_se', u_tr', u_fi', u_la', u_sh', u_ac', u_no', eh', we', hf') ∧ f_X5_greatestRun fu ho st = some (r, ho', st') ∧ RSt st' se tr fi la sh ac no ∧ AC u_ac' := by
  have hI := hS.inv
  have hS' : RSt st (jcpy se u_se 4) (jcpy tr u_tr 40) (jcpy fi u_fi 40) (jcpy la u_la 40) (jcpy sh u_sh 40) (jcpy ac u_ac 40) no := RSt_ext hS (EQn_rf _ _) (EQn_cpy _ _ _) (EQn_cpy _ _ _) (EQn_cpy _ _ _) (EQn_cpy _ _ _) (EQn_cpy _ _ _) (EQn_cpy _ _ _)
  obtain ⟨V, hV⟩ : ∃ V : Int → Int, V = fun v => wkN (HO (uI (jcpy se u_se 4) 0 v) (jcpy tr u_tr 40) (jcpy fi u_fi 40) (jcpy la u_la 40) (jcpy sh u_sh 40) (jcpy ac u_ac 40) no) (uI (jcpy se u_se 4) 0 v 3) := ⟨_, rfl⟩
  obtain ⟨r, se', eh', we', hf', e1, hr⟩ := l_runS (fu := fu) (V := V) hS'.2.1 hS'.2.2.1 hS'.2.2.2.1 (fun v => by rw [hV]) (by omega) 9 fu 9 (jcpy se u_se 4) p_eh p_hf p_we rfl (by omega) (by omega) (Or.inl rfl) (fun v v1 v2 => by omega)
  obtain ⟨r', ho', st', e2, hS2, hr'⟩ := l_runM (fu := fu) (ho := ho) (V := V) hS' (fun v => by rw [hV]) (by omega)
  have hrr : r = r' := by
    rcases hr with ⟨j1, j2⟩ | ⟨j1, j2, j3, j4⟩
    · rcases hr' with ⟨k1, k2⟩ | ⟨k1, k2, k3, k4⟩
      · rw [j1, k1]
      · exact absurd k3 (j2 r' k1 k2)
    · rcases hr' with ⟨k1, k2⟩ | ⟨k1, k2, k3, k4⟩
      · exact absurd j3 (k2 r j1 j2)
      · rcases Int.lt_trichotomy r r' with h | h | h
        · exact absurd k3 (j4 r' h k2)
        · exact h
        · exact absurd j3 (k4 r h j2)
  subst hrr
  unfold f_X4_greatestRun
  rw [q_become hI.2.1 (by omega), jb7_s, jix_of (by omega) (by omega), show jG (Int.toNat 0) = 9 from rfl, e1, e2]
  exact ⟨_, _, _, _, _, _, _, _, _, _, _, _, _, rfl, rfl, RSt_ext hS2 (EQn_rf _ _) (EQn_cpy _ _ _).sy (EQn_cpy _ _ _).sy (EQn_cpy _ _ _).sy (EQn_cpy _ _ _).sy (EQn_cpy _ _ _).sy (EQn_cpy _ _ _).sy, hS'.2.2.2.1⟩
end Q59
