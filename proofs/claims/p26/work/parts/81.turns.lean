/-! the law's turns -/
section Q81
variable {fu : Nat} {se tr fi la sh ac u_se u_tr u_fi u_la u_sh u_ac p_eh p_hf lq ln lh xc : Int → Int} {no u_no p_we ol si d_le i : Int} {k_se k_tr k_fi k_la k_sh k_ac : Int → Int → Int} {k_no : Int → Int}
theorem a_J509 {J : JT} {kind st : Int} (hE : OKE (f_L_law_J1390 fu d_le xc i J)) (hJ : OKJ J (i + 1)) (hL : LST lq ln se tr fi la sh ac no) (hH : HS ol si) (hU : AC u_ac) (k0 : 0 ≤ kind) (k1 : kind < 11) (s0 : 0 ≤ st) (s1 : st < 60) (hf : 2000 ≤ fu) : GD (f_L_law_J509 fu d_le xc se tr fi la sh ac no u_se u_tr u_fi u_la u_sh u_ac u_no p_eh p_we p_hf ol si lq ln lh i kind st J k_se k_tr k_fi k_la k_sh k_ac k_no) := by
  unfold f_L_law_J509
  rw [jck_of (by omega) (by omega) (by omega) (by omega)]
  by_cases c6 : kind = 6
  · obtain ⟨m, em, m0, m1⟩ := L_low (fu := fu) (x := jshr (xc i) 11) (n := 5) (by omega) (by omega)
    rw [if_neg (by omega), em, jb_s]
    exact a_insert hE hJ hL hH hU s0 s1 (by omega) (by omega) hf
  rw [if_pos c6, jck_of (by omega) (by omega) (by omega) (by omega)]
  by_cases c7 : kind = 7
  · obtain ⟨m, em, m0, m1⟩ := L_low (fu := fu) (x := jshr (xc i) 11) (n := 8) (by omega) (by omega)
    rw [if_neg (by omega), em, jb_s]
    exact a_cut hE hL hH hU s0 s1 (by omega) (by omega) hf
  rw [if_pos c7, jck_of (by omega) (by omega) (by omega) (by omega)]
  by_cases c8 : kind = 8
  · obtain ⟨m, em, m0, m1⟩ := L_low (fu := fu) (x := jshr (xc i) 11) (n := 20) (by omega) (by omega)
    obtain ⟨g, eg, g0, g1⟩ := L_low (fu := fu) (x := jshr (xc i) 13) (n := 44) (by omega) (by omega)
    rw [if_neg (by omega), em, jb_s, eg, jb_s, jix_of (by omega) (by omega)]
    exact a_copy hE hJ hL hH hU s0 s1 (by omega) (by omega) g0 g1 hf
  obtain ⟨w, ew, w0, w1⟩ := L_low (fu := fu) (x := jshr (xc i) 4) (n := 4) (by omega) (by omega)
  rw [if_pos c8, ew, jb_s, jck_of (by omega) (by omega) (by omega) (by omega)]
  by_cases d0 : w = 0
  · obtain ⟨m, em, m0, m1⟩ := L_low (fu := fu) (x := jshr (xc i) 8) (n := 9) (by omega) (by omega)
    rw [if_neg (by omega), em, jb_s]
    exact a_set hE hL hH hU (by omega) hf
  rw [if_pos d0, jck_of (by omega) (by omega) (by omega) (by omega)]
  by_cases d1 : w = 1
  · obtain ⟨m, em, m0, m1⟩ := L_low (fu := fu) (x := jshr (xc i) 8) (n := 4) (by omega) (by omega)
    rw [if_neg (by omega), em, jb_s]
    exact a_set hE hL hH hU (by omega) hf
  rw [if_pos d1, jck_of (by omega) (by omega) (by omega) (by omega)]
  by_cases d2 : w = 2
  · obtain ⟨m, em, m0, m1⟩ := L_low (fu := fu) (x := jshr (xc i) 8) (n := 5) (by omega) (by omega)
    rw [if_neg (by omega), em, jb_s]
    exact a_set hE hL hH hU (by omega) hf
  obtain ⟨m, em, m0, m1⟩ := L_low (fu := fu) (x := jshr (xc i) 8) (n := 4) (by omega) (by omega)
  rw [if_pos d2, em, jb_s]
  exact a_set hE hL hH hU (by omega) hf
theorem a_J96 {J : JT} {kind n : Int} (hE : OKE (f_L_law_J1390 fu d_le xc i J)) (hJ : OKJ J (i + 1)) (hL : LST lq ln se tr fi la sh ac no) (hH : HS ol si) (hU : AC u_ac) (k0 : 0 ≤ kind) (k1 : kind < 11) (n0 : 0 ≤ n) (n1 : no ≠ 0 → n < no) (n2 : no = 0 → n = 0) (hf : 2000 ≤ fu) : GD (f_L_law_J96 fu d_le xc se tr fi la sh ac no u_se u_tr u_fi u_la u_sh u_ac u_no p_eh p_we p_hf ol si lq ln lh i kind J k_se k_tr k_fi k_la k_sh k_ac k_no n) := by
  have z0 := hL.2.1.1.1
  have z1 := hL.2.2.2.1
  unfold f_L_law_J96
  obtain ⟨st, es, s0, s1⟩ := L_low (fu := fu) (x := jshr (xc i) 6) (n := 60) (by omega) (by omega)
  rw [es, jb_s, jck_of (by omega) (by omega) (by omega) (by omega)]
  by_cases c3 : 4 ≤ kind
  · rw [if_pos c3, jck_of (by omega) (by omega) (by omega) (by omega)]
    by_cases c4 : kind = 4
    · rw [if_neg (by omega)]
      by_cases h0 : no = 0
      · obtain ⟨r, tr', fi', la', sh', ac', no', ol', si', k1, k2, k3, k4, k5, k6, k7, e1, hg⟩ := a_drop0 (u_se := u_se) (u_tr := u_tr) (u_fi := u_fi) (u_la := u_la) (u_sh := u_sh) (u_ac := u_ac) (u_no := u_no) (k_se := k_se) (k_tr := k_tr) (k_fi := k_fi) (k_la := k_la) (k_sh := k_sh) (k_ac := k_ac) (k_no := k_no) (p_eh := p_eh) (p_we := p_we) (p_hf := p_hf) (lh := lh) hE hL hH hU h0 (n2 h0) hf
        rw [e1, jb16_s, jix_of (by omega) (by omega), hL.1.2.1, jck_of (by omega) (by omega) (by omega) (by omega), if_neg (by omega)]
        exact hg
      · obtain ⟨r, tr', fi', la', sh', ac', no', ol', si', k1, k2, k3, k4, k5, k6, k7, e1, hg⟩ := a_drop (u_se := u_se) (u_tr := u_tr) (u_fi := u_fi) (u_la := u_la) (u_sh := u_sh) (u_ac := u_ac) (u_no := u_no) (k_se := k_se) (k_tr := k_tr) (k_fi := k_fi) (k_la := k_la) (k_sh := k_sh) (k_ac := k_ac) (k_no := k_no) (p_eh := p_eh) (p_we := p_we) (p_hf := p_hf) (lh := lh) hE hL hH hU n0 (n1 h0) hf
        rw [e1, jb16_s, jix_of (by omega) (by omega), hL.1.2.1, jck_of (by omega) (by omega) (by omega) (by omega), if_pos h0, jix_of (by omega) (by omega)]
        exact hg
    · rw [if_pos c4, jck_of (by omega) (by omega) (by omega) (by omega)]
      by_cases c5 : kind = 5
      · rw [if_neg (by omega), jix_of (by omega) (by omega), hL.1.2.1, jck_of (by omega) (by omega) (by omega) (by omega)]
        by_cases h0 : no ≤ 0
        · rw [if_pos h0]
          exact a_J509 hE hJ hL hH hU k0 k1 s0 s1 hf
        · obtain ⟨v, ev, v0, v1⟩ := L_low (fu := fu) (x := jshr (xc i) 8) (n := 13) (by omega) (by omega)
          obtain ⟨b, eb, b0, b1⟩ := L_low (fu := fu) (x := jshr (xc i) 10) (n := 2) (by omega) (by omega)
          rw [if_neg h0, ev, jb_s, eb, jb_s, jck_of (by omega) (by omega) (by omega) (by omega)]
          by_cases d : b = 0
          · rw [if_neg (by omega)]
            exact a_mark hE hL hH hU n0 (n1 (by omega)) v0 (by omega) (Or.inr rfl) hf
          · rw [if_pos d]
            exact a_mark hE hL hH hU n0 (n1 (by omega)) v0 (by omega) (Or.inl rfl) hf
      · rw [if_pos c5]
        exact a_J509 hE hJ hL hH hU k0 k1 s0 s1 hf
  · rw [if_neg c3]
    have hX : OKE (f_L_law_X310 fu d_le xc i J) := hE
    exact a_notes hX hf 2 fu 0 (by omega) (by omega) (by omega) _ _ _ _ _ _ _ _ _ _ _ _ _ _ _ _ _ _ _ _ _ _ _ _ _ _ _ _ _ hL hH hU
theorem a_turns {K : CT} (hK : OKE K) (hf : 2000 ≤ fu) : ∀ (n fuel : Nat) (x : Int), 0 ≤ x → x + n = 28 → n < fuel → OKJ (f_L_law_L42 fu d_le xc K fuel) x := by
  intro n
  induction n with
  | zero =>
    intro fuel x x0 x1 x2 se tr fi la sh ac no u_se u_tr u_fi u_la u_sh u_ac u_no p_eh p_we p_hf ol si k_se k_tr k_fi k_la k_sh k_ac k_no lq ln lh hL hH hU
    obtain ⟨q, rfl⟩ : ∃ q, fuel = q + 1 := ⟨fuel - 1, by omega⟩
    have e : f_L_law_L42 fu d_le xc K (q + 1) se tr fi la sh ac no u_se u_tr u_fi u_la u_sh u_ac u_no p_eh p_we p_hf ol si k_se k_tr k_fi k_la k_sh k_ac k_no lq ln lh x = K se tr fi la sh ac no u_se u_tr u_fi u_la u_sh u_ac u_no p_eh p_we p_hf ol si k_se k_tr k_fi k_la k_sh k_ac k_no lq ln lh := by
      show f_L_law_L42_b fu d_le xc K (f_L_law_L42 fu d_le xc K q) se tr fi la sh ac no u_se u_tr u_fi u_la u_sh u_ac u_no p_eh p_we p_hf ol si k_se k_tr k_fi k_la k_sh k_ac k_no lq ln lh x = _
      unfold f_L_law_L42_b
      rw [jck_of (by omega) (by omega) (by omega) (by omega), if_pos (by omega)]
    rw [e]
    exact hK _ _ _ _ _ _ _ _ _ _ _ _ _ _ _ _ _ _ _ _ _ _ _ _ _ _ _ _ _ hL hH hU
  | succ n ih =>
    intro fuel x x0 x1 x2 se tr fi la sh ac no u_se u_tr u_fi u_la u_sh u_ac u_no p_eh p_we p_hf ol si k_se k_tr k_fi k_la k_sh k_ac k_no lq ln lh hL hH hU
    obtain ⟨q, rfl⟩ : ∃ q, fuel = q + 1 := ⟨fuel - 1, by omega⟩
    have z0 := hL.2.1.1.1
    have z1 := hL.2.2.2.1
    have hJ := ih q (x + 1) (by omega) (by omega) (by omega)
    have hE := a_end (fu := fu) (d_le := d_le) (xc := xc) (i := x) hJ hf
    have go : ∀ kind, 0 ≤ kind → kind < 11 → GD (f_L_law_J74 fu d_le xc se tr fi la sh ac no u_se u_tr u_fi u_la u_sh u_ac u_no p_eh p_we p_hf ol si lq ln lh x (f_L_law_L42 fu d_le xc K q) k_se k_tr k_fi k_la k_sh k_ac k_no kind) := by
      intro kind k0 k1
      unfold f_L_law_J74
      rw [jix_of (by omega) (by omega), hL.1.2.1, jck_of (by omega) (by omega) (by omega) (by omega)]
      by_cases c : no = 0
      · rw [if_neg (by omega)]
        exact a_J96 hE hJ hL hH hU k0 k1 (by omega) (fun h => absurd c h) (fun _ => rfl) hf
      · obtain ⟨v, ev, v0, v1⟩ := L_low (fu := fu) (x := jshr (xc x) 4) (n := no) (by omega) (by omega)
        rw [if_pos c, jix_of (by omega) (by omega), ev, jb_s]
        exact a_J96 hE hJ hL hH hU k0 k1 v0 (fun _ => v1) (fun h => absurd h c) hf
    show GD (f_L_law_L42_b fu d_le xc K (f_L_law_L42 fu d_le xc K q) se tr fi la sh ac no u_se u_tr u_fi u_la u_sh u_ac u_no p_eh p_we p_hf ol si k_se k_tr k_fi k_la k_sh k_ac k_no lq ln lh x)
    unfold f_L_law_L42_b
    rw [jck_of (by omega) (by omega) (by omega) (by omega), if_neg (by omega), jix_of (by omega) (by omega), jck_of (by omega) (by omega) (by omega) (by omega)]
    by_cases c : 4 ≤ x
    · obtain ⟨v, ev, v0, v1⟩ := L_low (fu := fu) (x := xc x) (n := 11) (by omega) (by omega)
      rw [if_pos c, ev, jb_s]
      exact go v v0 v1
    · rw [if_neg c]
      exact go 0 (by omega) (by omega)
theorem law_good (hL : LST lq ln se tr fi la sh ac no) (hH : HS ol si) (hU : AC u_ac) : GD (f_L_law 3000 se tr fi la sh ac no u_se u_tr u_fi u_la u_sh u_ac u_no p_eh p_we p_hf d_le ol si k_se k_tr k_fi k_la k_sh k_ac k_no lq ln lh xc 0) := by
  unfold f_L_law
  have hK : OKE (f_L_law_X1440 3000) := by
    intro se tr fi la sh ac no u_se u_tr u_fi u_la u_sh u_ac u_no p_eh p_we p_hf ol si k_se k_tr k_fi k_la k_sh k_ac k_no lq ln lh _ _ _
    unfold f_L_law_X1440
    rw [jbo_of (by omega)]
    exact ⟨_, rfl⟩
  exact a_turns hK (by omega) 28 3000 0 (by omega) (by omega) (by omega) _ _ _ _ _ _ _ _ _ _ _ _ _ _ _ _ _ _ _ _ _ _ _ _ _ _ _ _ _ hL hH hU
end Q81
