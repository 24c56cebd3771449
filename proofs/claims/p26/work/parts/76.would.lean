/-! the law's trying of all shifts and runs -/
theorem loop_dnI {σ α : Type} {L : Nat → σ → Int → Option α} (k : σ → Option α) (I : Int → σ → Prop) (b : Int) (hend : ∀ q s, I b s → L (q + 1) s b = k s) (hstep : ∀ q s i, b < i → I i s → ∃ s', L (q + 1) s i = L q s' (i + (-1)) ∧ I (i + (-1)) s') :
    ∀ (n fuel : Nat) (s : σ) (i : Int), b + n = i → n < fuel → I i s → ∃ t, L fuel s i = k t ∧ I b t
  | 0, fuel, s, i, h1, h2, h3 => by
    obtain ⟨q, rfl⟩ : ∃ q, fuel = q + 1 := ⟨fuel - 1, by omega⟩
    have e : i = b := by omega
    subst e
    exact ⟨s, hend q s h3, h3⟩
  | n + 1, fuel, s, i, h1, h2, h3 => by
    obtain ⟨q, rfl⟩ : ∃ q, fuel = q + 1 := ⟨fuel - 1, by omega⟩
    obtain ⟨s', e1, e2⟩ := hstep q s i (by omega) h3
    rw [e1]
    exact loop_dnI k I b hend hstep n q s' (i + (-1)) (by omega) (by omega) e2
def GW (V : Int → Int) (i g : Int) : Prop := (g = -6 ∧ ∀ v, 1 ≤ v → v < i → V v ≠ 0) ∨ (1 ≤ g ∧ g < i ∧ V g = 0 ∧ ∀ v, g < v → v < i → V v ≠ 0)
def BW (W : Int → Int) (i best least : Int) : Prop := (i = 12 ∧ best = -1 ∧ least = 999) ∨ (i < best ∧ best ≤ 12 ∧ W best = least ∧ (∀ v, i < v → v ≤ 12 → least ≤ W v) ∧ (∀ v, i < v → v < best → least < W v))
theorem bS_min {W : Int → Int} (hW : ∀ v, W v ≤ 100) : ∀ n : Nat, (0 ≤ (fdA (bS W) (0, 101) 0 ((n : Int) + 1)).1 ∧ (fdA (bS W) (0, 101) 0 ((n : Int) + 1)).1 ≤ n) ∧ W (fdA (bS W) (0, 101) 0 ((n : Int) + 1)).1 = (fdA (bS W) (0, 101) 0 ((n : Int) + 1)).2 ∧ (∀ v : Int, 0 ≤ v → v ≤ n → (fdA (bS W) (0, 101) 0 ((n : Int) + 1)).2 ≤ W v) ∧ (∀ v, 0 ≤ v → v < (fdA (bS W) (0, 101) 0 ((n : Int) + 1)).1 → (fdA (bS W) (0, 101) 0 ((n : Int) + 1)).2 < W v)
  | 0 => by
    have h := hW 0
    have e : fdA (bS W) (0, 101) 0 (((0 : Nat) : Int) + 1) = (0, W 0) := by
      rw [show ((0 : Nat) : Int) + 1 = 0 + 1 from rfl, fdA_s _ _ (by omega), fdA_0]
      unfold bS
      rw [if_neg (by show ¬ (101 : Int) ≤ W 0; omega)]
    rw [e]
    exact ⟨⟨by show (0 : Int) ≤ 0; omega, by show (0 : Int) ≤ 0; omega⟩, rfl, fun v v0 v1 => by rw [show v = 0 by omega]; exact Int.le_refl _, fun v v0 v1 => absurd v1 (by show ¬ v < 0; omega)⟩
  | n + 1 => by
    obtain ⟨⟨a1, a2⟩, a3, a4, a5⟩ := bS_min hW n
    have e : fdA (bS W) (0, 101) 0 (((n + 1 : Nat) : Int) + 1) = bS W ((n : Int) + 1) (fdA (bS W) (0, 101) 0 ((n : Int) + 1)) := by
      rw [show ((n + 1 : Nat) : Int) + 1 = ((n : Int) + 1) + 1 by omega, fdA_s _ _ (by omega)]
    rw [e]
    generalize fdA (bS W) (0, 101) 0 ((n : Int) + 1) = p at a1 a2 a3 a4 a5 ⊢
    unfold bS
    by_cases c : p.2 ≤ W ((n : Int) + 1)
    · rw [if_pos c]
      exact ⟨⟨a1, by omega⟩, a3, fun v v0 v1 => by
        by_cases d : v = (n : Int) + 1
        · rw [d]; exact c
        · exact a4 v v0 (by omega), a5⟩
    · rw [if_neg c]
      exact ⟨⟨by show (0 : Int) ≤ (n : Int) + 1; omega, by show (n : Int) + 1 ≤ _; omega⟩, rfl, fun v v0 v1 => by
        show W ((n : Int) + 1) ≤ W v
        by_cases d : v = (n : Int) + 1
        · rw [d]; exact Int.le_refl _
        · have := a4 v v0 (by omega)
          omega, fun v v0 v1 => by
        have v1 : v < (n : Int) + 1 := v1
        show W ((n : Int) + 1) < W v
        have := a4 v v0 (by omega)
        omega⟩
theorem BW_end {W : Int → Int} {b l : Int} (hW : ∀ v, W v ≤ 100) (h : BW W (-1) b l) : fdA (bS W) (0, 101) 0 13 = (b, l) := by
  obtain ⟨⟨a1, a2⟩, a3, a4, a5⟩ := bS_min hW 12
  rw [show ((12 : Nat) : Int) + 1 = 13 from rfl] at a1 a2 a3 a4 a5
  generalize fdA (bS W) (0, 101) 0 13 = p at a1 a2 a3 a4 a5 ⊢
  rcases h with ⟨h, -⟩ | ⟨h1, h2, h3, h4, h5⟩
  · omega
  · have e1 := a4 b (by omega) h2
    have e2 := h4 p.1 (by omega) a2
    have el : p.2 = l := by omega
    have eb : p.1 = b := by
      rcases Int.lt_trichotomy p.1 b with h | h | h
      · have := h5 p.1 (by omega) h
        omega
      · exact h
      · have := a5 b (by omega) h
        omega
    rw [← el, ← eb]
section Q76
variable {fu : Nat} {lq ln lh se tr fi la sh ac p_eh p_hf u_se u_tr u_fi u_la u_sh u_ac : Int → Int} {no p_we u_no : Int}
theorem LRm_run {lq' : Int → Int} {v : Int} (hR : LRm lq ln se tr fi la sh ac no) (h : ∀ k, k ≠ 0 → lq' k = lq k) : LRm (uI lq' 0 v) ln (uI se 0 v) tr fi la sh ac no := by
  obtain ⟨⟨q0, q1, q2, q3⟩, q4, q5⟩ := hR
  refine ⟨⟨by rw [uI_s, uI_s], ?_, ?_, ?_⟩, ?_, q5⟩
  · rw [uI_n _ _ (by omega), uI_n _ _ (by omega), h 1 (by omega)]; exact q1
  · rw [uI_n _ _ (by omega), uI_n _ _ (by omega), h 2 (by omega)]; exact q2
  · rw [uI_n _ _ (by omega), uI_n _ _ (by omega), h 3 (by omega)]; exact q3
  · rw [uI_n _ _ (by omega), h 4 (by omega)]; exact q4
theorem LRm_sh {ln' : Int → Int} {n v : Int} (hR : LRm lq ln se tr fi la sh ac no) (h : ∀ k, k ≠ 5 * n + 2 → ln' k = ln k) : LRm lq (uI ln' (5 * n + 2) v) se tr fi la (uI sh n v) ac no := by
  refine ⟨hR.1, hR.2.1, fun k k0 k1 => ?_⟩
  obtain ⟨r0, r1, r2, r3⟩ := lr4 (hR.2.2 k k0 k1)
  refine lr4_of ?_ ?_ ?_ ?_
  · rw [uI_n _ _ (by omega), h _ (by omega)]; exact r0
  · rw [uI_n _ _ (by omega), h _ (by omega)]; exact r1
  · by_cases c : k = n
    · rw [c, uI_s, uI_s]
    · rw [uI_n _ _ (by omega), h _ (by omega), uI_n _ _ c]; exact r2
  · rw [uI_n _ _ (by omega), h _ (by omega)]; exact r3
theorem L_would {x1 : Int} (hL : LST lq ln se tr fi la sh ac no) (hf : 2000 ≤ fu) :
    ∃ u_se' u_tr' u_fi' u_la' u_sh' u_ac' u_no' eh' we' hf' lq' ln' lh', f_L_would fu se tr fi la sh ac no u_se u_tr u_fi u_la u_sh u_ac u_no p_eh p_we p_hf lq ln lh x1 = some (1, u_se', u_tr', u_fi', u_la', u_sh', u_ac', u_no', eh', we', hf', lq', ln', lh') ∧ LST lq' ln' se tr fi la sh ac no ∧ AC u_ac' := by
  have hL' := hL
  obtain ⟨hR, hI, hE, hM⟩ := hL'
  have hN := hI.1
  have hA := hI.2.1
  have n0 := hN.1
  have n12 := hM.1
  obtain ⟨V, hV⟩ : ∃ V : Int → Int, ∀ v, V v = wkN (HO (uI se 0 v) tr fi la sh ac no) (se 3) := ⟨_, fun v => rfl⟩
  unfold f_L_would
  rw [jix_of (by omega) (by omega)]
  obtain ⟨p, e, i1, i2, i3⟩ := loop_upI (L := fun q (v : (Int → Int) × (Int → Int) × Int) i => f_L_would_L12 fu (f_L_would_X49 fu se tr fi la sh ac no x1) q u_se u_tr u_fi u_la u_sh u_ac u_no p_eh p_we p_hf v.1 ln v.2.1 (lq 0) v.2.2 i) (fun v => f_L_would_X49 fu se tr fi la sh ac no x1 u_se u_tr u_fi u_la u_sh u_ac u_no p_eh p_we p_hf v.1 ln v.2.1 (lq 0) v.2.2)
    (fun i v => 1 ≤ i ∧ (∀ k, k ≠ 0 → v.1 k = lq k) ∧ GW V i v.2.2) 10
    (fun q v hI => by
      show f_L_would_L12_b fu _ _ u_se u_tr u_fi u_la u_sh u_ac u_no p_eh p_we p_hf v.1 ln v.2.1 (lq 0) v.2.2 10 = _
      unfold f_L_would_L12_b
      rw [jck_of (by omega) (by omega) (by omega) (by omega), if_pos (by omega)])
    (fun q v i hi hI' => by
      obtain ⟨i1, i2, i3⟩ := hI'
      have hE' := SE_run (v := i) hE i1 (by omega)
      obtain ⟨lh', ew, -⟩ := L_weak (fu := fu) (lh := v.2.1) (LRm_run (v := i) hR i2) hN hE' hA hM (by omega)
      rw [uI_n se i (show (3 : Int) ≠ 0 by omega), ← hV i] at ew
      have hw := wkN_in (HO (uI se 0 i) tr fi la sh ac no) (se 3)
      rw [← hV i] at hw
      have hq : ∀ k, k ≠ 0 → uI v.1 0 i k = lq k := fun k k0 => by rw [uI_n _ _ k0]; exact i2 k k0
      by_cases c : V i = 0
      · refine ⟨(uI v.1 0 i, lh', i), ?_, by omega, hq, Or.inr ⟨i1, by show i < i + 1; omega, c, fun v v1 v2 => absurd v1 (by show ¬ i < v; omega)⟩⟩
        show f_L_would_L12_b fu _ _ u_se u_tr u_fi u_la u_sh u_ac u_no p_eh p_we p_hf v.1 ln v.2.1 (lq 0) v.2.2 i = _
        unfold f_L_would_L12_b
        rw [jck_of (by omega) (by omega) (by omega) (by omega), if_neg (by omega), jix_of (by omega) (by omega), ew, jb2_s, jck_of (by omega) (by omega) (by omega) (by omega), if_neg (by omega)]
      · refine ⟨(uI v.1 0 i, lh', v.2.2), ?_, by omega, hq, ?_⟩
        · show f_L_would_L12_b fu _ _ u_se u_tr u_fi u_la u_sh u_ac u_no p_eh p_we p_hf v.1 ln v.2.1 (lq 0) v.2.2 i = _
          unfold f_L_would_L12_b
          rw [jck_of (by omega) (by omega) (by omega) (by omega), if_neg (by omega), jix_of (by omega) (by omega), ew, jb2_s, jck_of (by omega) (by omega) (by omega) (by omega), if_pos c]
        · have k : ∀ v, v < i + 1 → (v < i → V v ≠ 0) → V v ≠ 0 := fun v v1 v2 => by
            by_cases d : v = i
            · rw [d]; exact c
            · exact v2 (by omega)
          rcases i3 with ⟨j1, j2⟩ | ⟨j1, j2, j3, j4⟩
          · exact Or.inl ⟨j1, fun v v1 v2 => k v v2 (fun h => j2 v v1 h)⟩
          · exact Or.inr ⟨j1, by show v.2.2 < _; omega, j3, fun v v1 v2 => k v v2 (fun h => j4 v v1 h)⟩)
    9 fu (lq, lh, -6) 1 (by omega) (by omega) ⟨by omega, fun k _ => rfl, Or.inl ⟨rfl, fun v v1 v2 => by omega⟩⟩
  have e' : f_L_would_L12 fu (f_L_would_X49 fu se tr fi la sh ac no x1) fu u_se u_tr u_fi u_la u_sh u_ac u_no p_eh p_we p_hf lq ln lh (lq 0) (-6) 1 = f_L_would_X49 fu se tr fi la sh ac no x1 u_se u_tr u_fi u_la u_sh u_ac u_no p_eh p_we p_hf p.1 ln p.2.1 (lq 0) p.2.2 := e
  rw [e']
  have hR1 : LRm (uI p.1 0 (lq 0)) ln se tr fi la sh ac no := by
    have h := LRm_run (v := lq 0) hR i2
    rw [hR.1.1, uI_id, ← hR.1.1] at h
    exact h
  have hr6 : -6 ≤ p.2.2 ∧ p.2.2 < 10 := by
    rcases i3 with ⟨h, -⟩ | ⟨h, h', -⟩ <;> omega
  obtain ⟨v_se, v_tr, v_fi, v_la, v_sh, v_ac, v_no, e1, w1, y1, c1, hAv⟩ := ca_greatestRun (fu := fu) (u_se := u_se) (u_tr := u_tr) (u_fi := u_fi) (u_la := u_la) (u_sh := u_sh) (u_ac := u_ac) (u_no := u_no) (p_eh := p_eh) (p_we := p_we) (p_hf := p_hf) (V := V) (r' := p.2.2) hN hE hA hV (by
    rcases i3 with ⟨h, h'⟩ | ⟨h, h', h2, h3⟩
    · exact Or.inl ⟨h, fun v v1 v2 => h' v v1 (by omega)⟩
    · exact Or.inr ⟨h, by omega, h2, fun v v1 v2 => h3 v v1 (by omega)⟩) hf
  have q4 := hR1.2.1
  unfold f_L_would_X49
  rw [jix_of (by omega) (by omega), c1, jb11_s, jck_of (by omega) (by omega) (by omega) (by omega), if_pos rfl, jix_of (by omega) (by omega), q4, jck_of (by omega) (by omega) (by omega) (by omega)]
  by_cases c : no = 0
  · rw [if_neg (by omega), jbo_of (by omega)]
    exact ⟨_, _, _, _, _, _, _, _, _, _, _, _, _, rfl, ⟨hR1, hI, hE, hM⟩, hAv⟩
  · rw [if_pos c, jix_of (by omega) (by omega)]
    obtain ⟨n, en, m0, m1⟩ := L_low (fu := fu) (x := x1) (n := no) (by omega) (by omega)
    rw [en, jb_s, jix_of (by omega) (by omega)]
    obtain ⟨r0, r1, r2, r3⟩ := lr4 (hR.2.2 n m0 m1)
    obtain ⟨W, hW⟩ : ∃ W : Int → Int, ∀ v, W v = wkN (HO se tr fi la (uI sh n v) ac no) (se 3) := ⟨_, fun v => rfl⟩
    have hW1 : ∀ v, 0 ≤ W v ∧ W v ≤ 100 := fun v => by rw [hW v]; exact wkN_in _ _
    obtain ⟨z, ez, z1, z2, z3⟩ := loop_dnI (L := fun q (v : (Int → Int) × (Int → Int) × Int × Int) i => f_L_would_L104 fu n (f_L_would_X166 fu se tr fi la sh ac no n) q v_se v_tr v_fi v_la v_sh v_ac v_no e1 w1 y1 (uI p.1 0 (lq 0)) v.1 v.2.1 (ln (5 * n + 2)) v.2.2.1 v.2.2.2 i) (fun v => f_L_would_X166 fu se tr fi la sh ac no n v_se v_tr v_fi v_la v_sh v_ac v_no e1 w1 y1 (uI p.1 0 (lq 0)) v.1 v.2.1 (ln (5 * n + 2)) v.2.2.1 v.2.2.2)
      (fun i v => i ≤ 12 ∧ (∀ k, k ≠ 5 * n + 2 → v.1 k = ln k) ∧ BW W i v.2.2.1 v.2.2.2) (-1)
      (fun q v hI => by
        show f_L_would_L104_b fu n _ _ v_se v_tr v_fi v_la v_sh v_ac v_no e1 w1 y1 (uI p.1 0 (lq 0)) v.1 v.2.1 (ln (5 * n + 2)) v.2.2.1 v.2.2.2 (-1) = _
        unfold f_L_would_L104_b
        rw [jck_of (by omega) (by omega) (by omega) (by omega), if_pos (by omega)])
      (fun q v i hi hI' => by
        obtain ⟨i1, i2, i3⟩ := hI'
        have hI2 := INV_sh (x := n) (v := i) hI (by omega) i1
        obtain ⟨lh', ew, -⟩ := L_weak (fu := fu) (lh := v.2.1) (LRm_sh (n := n) (v := i) hR1 i2) hI2.1 hE hA hM (by omega)
        rw [← hW i] at ew
        have hw := hW1 i
        have hleast : 0 ≤ v.2.2.2 ∧ v.2.2.2 ≤ 999 := by
          rcases i3 with ⟨-, -, h⟩ | ⟨-, -, h, -⟩
          · omega
          · have := hW1 v.2.2.1
            omega
        have hq : ∀ k, k ≠ 5 * n + 2 → uI v.1 (5 * n + 2) i k = ln k := fun k k0 => by rw [uI_n _ _ k0]; exact i2 k k0
        by_cases c : W i ≤ v.2.2.2
        · refine ⟨(uI v.1 (5 * n + 2) i, lh', i, W i), ?_, by omega, hq, Or.inr ⟨by show i + -1 < i; omega, i1, rfl, fun u u0 u1 => ?_, fun u u0 u1 => absurd u1 (by show ¬ u < i; omega)⟩⟩
          · show f_L_would_L104_b fu n _ _ v_se v_tr v_fi v_la v_sh v_ac v_no e1 w1 y1 (uI p.1 0 (lq 0)) v.1 v.2.1 (ln (5 * n + 2)) v.2.2.1 v.2.2.2 i = _
            unfold f_L_would_L104_b f_L_would_J142
            rw [jck_of (by omega) (by omega) (by omega) (by omega), if_neg (by omega), jix_of (by omega) (by omega), ew, jb2_s, jck_of (by omega) (by omega) (by omega) (by omega), if_neg (by omega), jck_of (by omega) (by omega) (by omega) (by omega), if_neg (by omega)]
          · show W i ≤ W u
            by_cases d : u = i
            · rw [d]; exact Int.le_refl _
            · rcases i3 with ⟨h, -⟩ | ⟨-, -, -, h4, -⟩
              · omega
              · have := h4 u (by omega) u1
                omega
        · have hcase : i < v.2.2.1 ∧ v.2.2.1 ≤ 12 ∧ W v.2.2.1 = v.2.2.2 ∧ (∀ u, i < u → u ≤ 12 → v.2.2.2 ≤ W u) ∧ (∀ u, i < u → u < v.2.2.1 → v.2.2.2 < W u) := by
            rcases i3 with ⟨-, -, h⟩ | h
            · omega
            · exact h
          obtain ⟨h1, h2, h3, h4, h5⟩ := hcase
          refine ⟨(uI v.1 (5 * n + 2) i, lh', v.2.2.1, v.2.2.2), ?_, by omega, hq, Or.inr ⟨by show i + -1 < v.2.2.1; omega, h2, h3, fun u u0 u1 => ?_, fun u u0 u1 => ?_⟩⟩
          · show f_L_would_L104_b fu n _ _ v_se v_tr v_fi v_la v_sh v_ac v_no e1 w1 y1 (uI p.1 0 (lq 0)) v.1 v.2.1 (ln (5 * n + 2)) v.2.2.1 v.2.2.2 i = _
            unfold f_L_would_L104_b f_L_would_J142
            rw [jck_of (by omega) (by omega) (by omega) (by omega), if_neg (by omega), jix_of (by omega) (by omega), ew, jb2_s, jck_of (by omega) (by omega) (by omega) (by omega), if_pos (by omega), jck_of (by omega) (by omega) (by omega) (by omega), if_pos (by omega)]
          · show v.2.2.2 ≤ W u
            by_cases d : u = i
            · rw [d]; omega
            · exact h4 u (by omega) u1
          · show v.2.2.2 < W u
            by_cases d : u = i
            · rw [d]; omega
            · exact h5 u (by omega) u1)
      13 fu (ln, p.2.1, -1, 999) 12 (by omega) (by omega) ⟨by omega, fun k _ => rfl, Or.inl ⟨rfl, rfl, rfl⟩⟩
    have ez' : f_L_would_L104 fu n (f_L_would_X166 fu se tr fi la sh ac no n) fu v_se v_tr v_fi v_la v_sh v_ac v_no e1 w1 y1 (uI p.1 0 (lq 0)) ln p.2.1 (ln (5 * n + 2)) (-1) 999 12 = f_L_would_X166 fu se tr fi la sh ac no n v_se v_tr v_fi v_la v_sh v_ac v_no e1 w1 y1 (uI p.1 0 (lq 0)) z.1 z.2.1 (ln (5 * n + 2)) z.2.2.1 z.2.2.2 := ez
    rw [ez']
    have hB := BW_end (fun v => (hW1 v).2) z3
    have hR2 : LRm (uI p.1 0 (lq 0)) (uI z.1 (5 * n + 2) (ln (5 * n + 2))) se tr fi la sh ac no := by
      have h := LRm_sh (n := n) (v := sh n) hR1 z2
      rw [uI_id, ← r2] at h
      exact h
    have hb2 : -1 ≤ z.2.2.1 ∧ z.2.2.1 ≤ 12 := by
      rcases z3 with ⟨h, -⟩ | ⟨h, h', -⟩ <;> omega
    have hl2 : 0 ≤ z.2.2.2 ∧ z.2.2.2 ≤ 999 := by
      rcases z3 with ⟨h, -⟩ | ⟨h, h', h2, -⟩
      · omega
      · have := hW1 z.2.2.1
        omega
    obtain ⟨x_se, x_tr, x_fi, x_la, x_sh, x_ac, x_no, e2, w2, y2, c2, hAx⟩ := ca_bestShift (fu := fu) (u_se := v_se) (u_tr := v_tr) (u_fi := v_fi) (u_la := v_la) (u_sh := v_sh) (u_ac := v_ac) (u_no := v_no) (p_eh := e1) (p_we := w1) (p_hf := y1) (x1 := n) (x2 := 0) (W := W) hN hE hA m0 m1 (by omega) hW hf
    obtain ⟨s_se, s_tr, s_fi, s_la, s_sh, s_ac, s_no, e3, w3, y3, c3, hAs⟩ := ca_bestShift (fu := fu) (u_se := x_se) (u_tr := x_tr) (u_fi := x_fi) (u_la := x_la) (u_sh := x_sh) (u_ac := x_ac) (u_no := x_no) (p_eh := e2) (p_we := w2) (p_hf := y2) (x1 := n) (x2 := 1) (W := W) hN hE hA m0 m1 (by omega) hW hf
    rw [hB, if_neg (show ¬ (0 : Int) ≠ 0 by omega)] at c2
    rw [hB, if_pos (show (1 : Int) ≠ 0 by omega)] at c3
    unfold f_L_would_X166
    rw [jix_of (by omega) (by omega), c2, jb11_s, jck_of (by omega) (by omega) (by omega) (by omega), nn, c3, jb11_s, jck_of (by omega) (by omega) (by omega) (by omega), nn, jbo_of (by omega)]
    exact ⟨_, _, _, _, _, _, _, _, _, _, _, _, _, rfl, ⟨hR2, hI, hE, hM⟩, hAs⟩
end Q76
