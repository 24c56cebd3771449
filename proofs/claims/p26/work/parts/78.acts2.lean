/-! the law's acts: notes put in, steps put in -/
section Q78
variable {fu : Nat} {se tr fi la sh ac u_se u_tr u_fi u_la u_sh u_ac p_eh p_hf lq ln lh xc : Int → Int} {no u_no p_we ol si d_le i : Int} {k_se k_tr k_fi k_la k_sh k_ac : Int → Int → Int} {k_no : Int → Int}
theorem a_note {J : JT} {x a b t : Int} (hJ : OKJ J (x + 1)) (hL : LST lq ln se tr fi la sh ac no) (hH : HS ol si) (hU : AC u_ac) (hn : no < 12) (t0 : 0 ≤ t) (t1 : t < 12) (a0 : 0 ≤ a) (a1 : a < 44) (ab : a ≤ b) (b1 : b < 60) (hf : 2000 ≤ fu) :
    ∃ r, f_L_taken fu lq ln t a b = some r ∧ (r = 0 ∨ r = 1) ∧ ∀ c d, d = b - a → c = (if r = 0 then 1 else 0) → GD (f_L_law_J205 fu se tr fi la sh ac no u_se u_tr u_fi u_la u_sh u_ac u_no p_eh p_we p_hf ol si lq ln lh x t a d J k_se k_tr k_fi k_la k_sh k_ac k_no c) := by
  have hI := hL.2.1
  have hN := hI.1
  have n0 := hN.1
  obtain ⟨r, er, r01, ri⟩ := L_taken (fu := fu) (t := t) (a := a) (b := b) hL.1 hN hL.2.2.2 (by omega) (by omega) (by omega) (by omega) (by omega) (by omega) (by omega)
  refine ⟨r, er, r01, fun c d hd hc => ?_⟩
  unfold f_L_law_J205
  rw [show a + d = b by omega, a_L213 hL a0 (by omega) t0 t1 (by omega)]
  unfold f_L_law_X254
  have hcnt := fdA_cnt (P := fun k => 100 * fi k + tr k < 100 * a + t) n0
  by_cases hr : r = 0
  · have hc1 : c = 1 := by rw [hc, if_pos hr]
    have hg : ¬ ∃ k, 0 ≤ k ∧ k < no ∧ (tr k = t ∧ fi k ≤ b ∧ a ≤ la k) := fun h => by have := ri.mpr h; omega
    obtain ⟨p, ol', si', k1, k2, k3, k4, k5, k6, k7, e1, hH', p0, p1, plo, phi, hI'⟩ := ca_note_f (fu := fu) (se := se) (k_se := k_se) (k_tr := k_tr) (k_fi := k_fi) (k_la := k_la) (k_sh := k_sh) (k_ac := k_ac) (k_no := k_no) (x1 := t) (x2 := a) (x3 := b) hI hH ⟨t0, t1⟩ ⟨a0, by omega⟩ ab (by omega) (by omega) hg hf
    rw [e1, jb16_s, hc1, jck_of (by omega) (by omega) (by omega) (by omega), if_neg (by omega), cnt_place hI t0 t1 p0 p1 plo phi]
    unfold f_L_law_J276
    obtain ⟨ln1, ea, ea1, ea2⟩ := L_add (fu := fu) (lq := lq) (ln := ln) (n := no) (t := t) (a := a) (b := b) (s_ := 0) (x := 0) hL.1.2.1 n0 hn
    rw [jck_of (by omega) (by omega) (by omega) (by omega), if_pos rfl, jck_of (by omega) (by omega) (by omega) (by omega), if_neg (by omega), ea, jb2_s]
    unfold f_L_law_J299
    have hq4 : uI lq 4 (no + 1) 4 = no + 1 := uI_s _ _ _
    obtain ⟨ln2, es, es1, es2⟩ := L_sortC (fu := fu) (lq := uI lq 4 (no + 1)) (ln := ln1) hq4 hI' (by omega) (fun j j0 j1 => by
      by_cases h : j = no
      · refine ⟨p, p0, by omega, ?_⟩
        rw [h, ea1]
        unfold cR
        rw [ins_eq, ins_eq, ins_eq, ins_eq, ins_eq]
      · obtain ⟨q', z0, z1, z2⟩ := ins_old (p := p) (no := no) j0 (by omega) p0
        refine ⟨q', z0, z1, ?_⟩
        rw [ea2 j h, hL.1.2.2 j j0 (by omega)]
        unfold cR
        rw [z2, z2, z2, z2, z2]) (fun j k j0 jk k1 => by
      have hkey : ∀ j, 0 ≤ j → j < no → ln1 (5 * j) = 100 * fi j + tr j := fun j j0 j1 => by
        have h := ea2 j (by omega)
        rw [hL.1.2.2 j j0 j1] at h
        exact (lr4 h).1
      have hnew : ln1 (5 * no) = 100 * a + t := congrArg Prod.fst ea1
      have h1 := hkey j j0 (by omega)
      by_cases h : k = no
      · rw [h1, h, hnew]
        obtain ⟨a1', a2', -⟩ := hN.2.2 j j0 (by omega)
        by_cases hp : j < p
        · have := plo j j0 hp
          unfold kO at this
          omega
        · have := phi j (by omega) (by omega)
          unfold kO at this
          omega
      · rw [h1, hkey k (by omega) (by omega)]
        have hk : 100 * fi j + tr j < 100 * fi k + tr k := key_lt hI j k j0 jk (by omega)
        omega) (by omega)
    rw [es, jb_s]
    have hsm : SM (ins la p b no) (no + 1) := ⟨by omega, fun k k0 k1 => by
      by_cases h : k < p
      · rw [ins_lt _ h]; exact hL.2.2.2.2 k k0 (by omega)
      · by_cases h2 : k = p
        · rw [h2, ins_eq]; exact b1
        · rw [ins_gt _ (by omega) (by omega)]; exact hL.2.2.2.2 (k - 1) (by omega) (by omega)⟩
    obtain ⟨q0, q1, q2, q3⟩ := hL.1.1
    exact hJ _ _ _ _ _ _ _ _ _ _ _ _ _ _ _ _ _ _ _ _ _ _ _ _ _ _ _ _ _ ⟨⟨⟨by rw [uI_n _ _ (by omega)]; exact q0, by rw [uI_n _ _ (by omega)]; exact q1, by rw [uI_n _ _ (by omega)]; exact q2, by rw [uI_n _ _ (by omega)]; exact q3⟩, hq4, es1⟩, hI', hL.2.2.1, hsm⟩ hH' hU
  · have hc0 : c = 0 := by rw [hc, if_neg hr]
    have hr1 : r = 1 := r01.resolve_left hr
    rw [ca_note_t (fu := fu) hI ⟨t0, t1⟩ ⟨a0, by omega⟩ ab (by omega) (by omega) (ri.mp hr1) hf, jb16_s, hc0, jck_of (by omega) (by omega) (by omega) (by omega), if_pos rfl]
    unfold f_L_law_J276
    rw [jck_of (by omega) (by omega) (by omega) (by omega), if_pos rfl, jck_of (by omega) (by omega) (by omega) (by omega), if_pos rfl]
    unfold f_L_law_J299
    obtain ⟨ln2, es, hL2⟩ := sort_id (fu := fu) hL (by omega)
    rw [es, jb_s]
    exact hJ _ _ _ _ _ _ _ _ _ _ _ _ _ _ _ _ _ _ _ _ _ _ _ _ _ _ _ _ _ hL2 hH hU
theorem a_notes {K : CT} (hK : OKE K) (hf : 2000 ≤ fu) : ∀ (n fuel : Nat) (x : Int), 0 ≤ x → x + n = 2 → n < fuel → OKJ (f_L_law_L119 fu xc i K fuel) x := by
  intro n
  induction n with
  | zero =>
    intro fuel x x0 x1 x2 se tr fi la sh ac no u_se u_tr u_fi u_la u_sh u_ac u_no p_eh p_we p_hf ol si k_se k_tr k_fi k_la k_sh k_ac k_no lq ln lh hL hH hU
    obtain ⟨q, rfl⟩ : ∃ q, fuel = q + 1 := ⟨fuel - 1, by omega⟩
    have e : f_L_law_L119 fu xc i K (q + 1) se tr fi la sh ac no u_se u_tr u_fi u_la u_sh u_ac u_no p_eh p_we p_hf ol si k_se k_tr k_fi k_la k_sh k_ac k_no lq ln lh x = K se tr fi la sh ac no u_se u_tr u_fi u_la u_sh u_ac u_no p_eh p_we p_hf ol si k_se k_tr k_fi k_la k_sh k_ac k_no lq ln lh := by
      show f_L_law_L119_b fu xc i K (f_L_law_L119 fu xc i K q) se tr fi la sh ac no u_se u_tr u_fi u_la u_sh u_ac u_no p_eh p_we p_hf ol si k_se k_tr k_fi k_la k_sh k_ac k_no lq ln lh x = _
      unfold f_L_law_L119_b
      rw [jck_of (by omega) (by omega) (by omega) (by omega), if_pos (by omega)]
    rw [e]
    exact hK _ _ _ _ _ _ _ _ _ _ _ _ _ _ _ _ _ _ _ _ _ _ _ _ _ _ _ _ _ hL hH hU
  | succ n ih =>
    intro fuel x x0 x1 x2 se tr fi la sh ac no u_se u_tr u_fi u_la u_sh u_ac u_no p_eh p_we p_hf ol si k_se k_tr k_fi k_la k_sh k_ac k_no lq ln lh hL hH hU
    obtain ⟨q, rfl⟩ : ∃ q, fuel = q + 1 := ⟨fuel - 1, by omega⟩
    have n0 := hL.2.1.1.1
    have n12 := hL.2.2.2.1
    by_cases c : 12 ≤ no
    · have e : f_L_law_L119 fu xc i K (q + 1) se tr fi la sh ac no u_se u_tr u_fi u_la u_sh u_ac u_no p_eh p_we p_hf ol si k_se k_tr k_fi k_la k_sh k_ac k_no lq ln lh x = K se tr fi la sh ac no u_se u_tr u_fi u_la u_sh u_ac u_no p_eh p_we p_hf ol si k_se k_tr k_fi k_la k_sh k_ac k_no lq ln lh := by
        show f_L_law_L119_b fu xc i K (f_L_law_L119 fu xc i K q) se tr fi la sh ac no u_se u_tr u_fi u_la u_sh u_ac u_no p_eh p_we p_hf ol si k_se k_tr k_fi k_la k_sh k_ac k_no lq ln lh x = _
        unfold f_L_law_L119_b
        rw [jck_of (by omega) (by omega) (by omega) (by omega), if_neg (by omega), jix_of (by omega) (by omega), hL.1.2.1, jck_of (by omega) (by omega) (by omega) (by omega), if_pos c]
      rw [e]
      exact hK _ _ _ _ _ _ _ _ _ _ _ _ _ _ _ _ _ _ _ _ _ _ _ _ _ _ _ _ _ hL hH hU
    · obtain ⟨t, et, t0, t1⟩ := L_low (fu := fu) (x := jshr (xc i) (4 + (3 * x))) (n := 12) (by omega) (by omega)
      obtain ⟨a, ea, a0, a1⟩ := L_low (fu := fu) (x := jshr (xc i) (7 + (3 * x))) (n := 44) (by omega) (by omega)
      obtain ⟨d, ed, d0, d1⟩ := L_low (fu := fu) (x := jshr (xc i) (9 + (3 * x))) (n := 12) (by omega) (by omega)
      obtain ⟨r, er, r01, go⟩ := a_note (fu := fu) (u_se := u_se) (u_tr := u_tr) (u_fi := u_fi) (u_la := u_la) (u_sh := u_sh) (u_ac := u_ac) (u_no := u_no) (k_se := k_se) (k_tr := k_tr) (k_fi := k_fi) (k_la := k_la) (k_sh := k_sh) (k_ac := k_ac) (k_no := k_no) (p_eh := p_eh) (p_we := p_we) (p_hf := p_hf) (lh := lh) (x := x) (a := a) (b := a + d) (t := t) (ih q (x + 1) (by omega) (by omega) (by omega)) hL hH hU (by omega) t0 t1 a0 a1 (by omega) (by omega) hf
      have e : f_L_law_L119 fu xc i K (q + 1) se tr fi la sh ac no u_se u_tr u_fi u_la u_sh u_ac u_no p_eh p_we p_hf ol si k_se k_tr k_fi k_la k_sh k_ac k_no lq ln lh x = f_L_law_J205 fu se tr fi la sh ac no u_se u_tr u_fi u_la u_sh u_ac u_no p_eh p_we p_hf ol si lq ln lh x t a d (f_L_law_L119 fu xc i K q) k_se k_tr k_fi k_la k_sh k_ac k_no (if r = 0 then 1 else 0) := by
        show f_L_law_L119_b fu xc i K (f_L_law_L119 fu xc i K q) se tr fi la sh ac no u_se u_tr u_fi u_la u_sh u_ac u_no p_eh p_we p_hf ol si k_se k_tr k_fi k_la k_sh k_ac k_no lq ln lh x = _
        unfold f_L_law_L119_b
        rw [jck_of (by omega) (by omega) (by omega) (by omega), if_neg (by omega), jix_of (by omega) (by omega), hL.1.2.1, jck_of (by omega) (by omega) (by omega) (by omega), if_neg c, et, jb_s, ea, jb_s, ed, jb_s, er, jb_s, jck_of (by omega) (by omega) (by omega) (by omega)]
        by_cases h : r = 0
        · rw [if_neg (by omega), if_pos h]
        · rw [if_pos h, if_neg h]
      rw [e]
      exact go _ d (by omega) rfl
theorem a_far {st m : Int} {K : Int → Int → Option OT} (hL : LST lq ln se tr fi la sh ac no) (s0 : 0 ≤ st) (s1 : st < 60) (m0 : 1 ≤ m) (m1 : m ≤ 5) (hf : 2000 ≤ fu) :
    ∃ r, f_L_law_L538 fu lq ln st K fu m 0 0 = K m r ∧ (r = 0 ∨ r = 1) ∧ (r = 0 → ∀ q, 0 ≤ q → q < no → la q < st ∨ la q + m ≤ 59) := by
  obtain ⟨hR, hI, hE, hM⟩ := hL
  have n0 := hI.1.1
  have n12 := hM.1
  obtain ⟨p, e, i1, i2, i3⟩ := loop_upI (L := fun q (v : Int) x => f_L_law_L538 fu lq ln st K q m v x) (fun v => K m v)
    (fun x v => 0 ≤ x ∧ (v = 0 ∨ v = 1) ∧ (v = 0 → ∀ q, 0 ≤ q → q < x → la q < st ∨ la q + m ≤ 59)) no
    (fun q v hI => by
      show f_L_law_L538_b fu lq ln st _ _ m v no = _
      unfold f_L_law_L538_b
      rw [jix_of (by omega) (by omega), hR.2.1, jck_of (by omega) (by omega) (by omega) (by omega), if_pos (by omega)])
    (fun q v x hx hv => by
      obtain ⟨i1, i2, i3⟩ := hv
      obtain ⟨a1', a2', a3', a4', a5', -, -⟩ := hI.1.2.2 x i1 hx
      have h60 := hM.2 x i1 hx
      obtain ⟨r0, r1, r2, r3⟩ := lr4 (hR.2.2 x i1 hx)
      by_cases c : v = 0
      · by_cases d : la x < st ∨ la x + m ≤ 59
        · refine ⟨0, ?_, by omega, Or.inl rfl, fun _ q q0 q1 => ?_⟩
          · show f_L_law_L538_b fu lq ln st _ _ m v x = _
            unfold f_L_law_L538_b
            rw [jix_of (by omega) (by omega), hR.2.1, jck_of (by omega) (by omega) (by omega) (by omega), if_neg (by omega), jck_of (by omega) (by omega) (by omega) (by omega), if_neg (by omega), jix_of (by omega) (by omega), r1, jck_of (by omega) (by omega) (by omega) (by omega)]
            by_cases g : la x < st
            · rw [if_pos g]
            · rw [if_neg g, jix_of (by omega) (by omega), jck_of (by omega) (by omega) (by omega) (by omega), if_pos (by omega)]
          · by_cases g : q = x
            · rw [g]; exact d
            · exact i3 c q q0 (by omega)
        · refine ⟨1, ?_, by omega, Or.inr rfl, fun h => by omega⟩
          show f_L_law_L538_b fu lq ln st _ _ m v x = _
          unfold f_L_law_L538_b
          rw [jix_of (by omega) (by omega), hR.2.1, jck_of (by omega) (by omega) (by omega) (by omega), if_neg (by omega), jck_of (by omega) (by omega) (by omega) (by omega), if_neg (by omega), jix_of (by omega) (by omega), r1, jck_of (by omega) (by omega) (by omega) (by omega), if_neg (by omega), jix_of (by omega) (by omega), jck_of (by omega) (by omega) (by omega) (by omega), if_neg (by omega)]
      · refine ⟨1, ?_, by omega, Or.inr rfl, fun h => by omega⟩
        show f_L_law_L538_b fu lq ln st _ _ m v x = _
        unfold f_L_law_L538_b
        rw [jix_of (by omega) (by omega), hR.2.1, jck_of (by omega) (by omega) (by omega) (by omega), if_neg (by omega), jck_of (by omega) (by omega) (by omega) (by omega), if_pos c])
    no.toNat fu 0 0 (by omega) (by omega) ⟨by omega, Or.inl rfl, fun _ q q0 q1 => by omega⟩
  exact ⟨p, e, i2, i3⟩
theorem a_insert {J : JT} {st m : Int} (hE : OKE (f_L_law_J1390 fu d_le xc i J)) (hJ : OKJ J (i + 1)) (hL : LST lq ln se tr fi la sh ac no) (hH : HS ol si) (hU : AC u_ac) (s0 : 0 ≤ st) (s1 : st < 60) (m0 : 1 ≤ m) (m1 : m ≤ 5) (hf : 2000 ≤ fu) :
    GD (f_L_law_L538 fu lq ln st (f_L_law_X593 fu d_le xc se tr fi la sh ac no u_se u_tr u_fi u_la u_sh u_ac u_no p_eh p_we p_hf ol si lq ln lh i st J k_se k_tr k_fi k_la k_sh k_ac k_no) fu m 0 0) := by
  obtain ⟨r, er, r01, rf⟩ := a_far (fu := fu) (K := f_L_law_X593 fu d_le xc se tr fi la sh ac no u_se u_tr u_fi u_la u_sh u_ac u_no p_eh p_we p_hf ol si lq ln lh i st J k_se k_tr k_fi k_la k_sh k_ac k_no) hL s0 s1 m0 m1 hf
  have n0 := hL.2.1.1.1
  have n12 := hL.2.2.2.1
  have hI := hL.2.1
  rw [er]
  unfold f_L_law_X593
  rw [jck_of (by omega) (by omega) (by omega) (by omega)]
  by_cases c : r = 0
  · have hfar := rf c
    rw [if_pos c]
    obtain ⟨p, e, i1, i2, i3⟩ := loop_upI (L := fun q (v : (Int → Int) × Int) x => f_L_law_L604 fu st m (f_L_law_X681 fu d_le xc i st m J) q se tr fi la sh ac no u_se u_tr u_fi u_la u_sh u_ac u_no p_eh p_we p_hf ol si k_se k_tr k_fi k_la k_sh k_ac k_no lq v.1 lh v.2 x) (fun v => f_L_law_X681 fu d_le xc i st m J se tr fi la sh ac no u_se u_tr u_fi u_la u_sh u_ac u_no p_eh p_we p_hf ol si k_se k_tr k_fi k_la k_sh k_ac k_no lq v.1 lh v.2)
      (fun x v => 0 ≤ x ∧ v.2 = fdA (sLen fi la st) 0 0 x ∧ LRm lq v.1 se tr (jcpy (sFi fi st m) fi x) (jcpy (sLa la st m) la x) sh ac no) no
      (fun q v hI => by
        show f_L_law_L604_b fu st m _ _ se tr fi la sh ac no u_se u_tr u_fi u_la u_sh u_ac u_no p_eh p_we p_hf ol si k_se k_tr k_fi k_la k_sh k_ac k_no lq v.1 lh v.2 no = _
        unfold f_L_law_L604_b
        rw [jix_of (by omega) (by omega), hL.1.2.1, jck_of (by omega) (by omega) (by omega) (by omega), if_pos (by omega)])
      (fun q v x hx hv => by
        obtain ⟨i1, i2, i3⟩ := hv
        obtain ⟨a1, a2, a3, a4, a5, -, -⟩ := hI.1.2.2 x i1 hx
        have h60 := hL.2.2.2.2 x i1 hx
        have hfx := hfar x i1 hx
        obtain ⟨r0, r1, r2, r3⟩ := lr4 (i3.2.2 x i1 hx)
        rw [jcpy_at] at r0 r1
        have hrow : ∀ (w : Int → Int), w (5 * x) = 100 * sFi fi st m x + tr x → w (5 * x + 1) = sLa la st m x → (∀ q, q ≠ 5 * x → q ≠ 5 * x + 1 → w q = v.1 q) → LRm lq w se tr (jcpy (sFi fi st m) fi (x + 1)) (jcpy (sLa la st m) la (x + 1)) sh ac no := by
          intro w w0 w1 w2
          refine ⟨i3.1, i3.2.1, fun k k0 k1 => ?_⟩
          rw [← jcpy_s _ _ i1, ← jcpy_s _ _ i1]
          by_cases h : k = x
          · refine lr4_of ?_ ?_ ?_ ?_
            · rw [h, uI_s, w0]
            · rw [h, uI_s, w1]
            · rw [h, w2 _ (by omega) (by omega)]; exact r2
            · rw [h, w2 _ (by omega) (by omega)]; exact r3
          · obtain ⟨t0, t1, t2, t3⟩ := lr4 (i3.2.2 k k0 k1)
            refine lr4_of ?_ ?_ ?_ ?_
            · rw [uI_n _ _ h, w2 _ (by omega) (by omega)]; exact t0
            · rw [uI_n _ _ h, w2 _ (by omega) (by omega)]; exact t1
            · rw [w2 _ (by omega) (by omega)]; exact t2
            · rw [w2 _ (by omega) (by omega)]; exact t3
        have es := fdA_s (sLen fi la st) 0 i1
        have hlen := fdA_cnt (P := fun k => fi k < st ∧ st ≤ la k) i1
        have hlen' : 0 ≤ fdA (sLen fi la st) 0 0 x ∧ fdA (sLen fi la st) 0 0 x ≤ x - 0 := ⟨hlen.1, hlen.2.1⟩
        by_cases d : la x < st
        · refine ⟨(v.1, v.2), ?_, by omega, ?_, ?_⟩
          · show f_L_law_L604_b fu st m _ _ se tr fi la sh ac no u_se u_tr u_fi u_la u_sh u_ac u_no p_eh p_we p_hf ol si k_se k_tr k_fi k_la k_sh k_ac k_no lq v.1 lh v.2 x = _
            unfold f_L_law_L604_b
            rw [jix_of (by omega) (by omega), hL.1.2.1, jck_of (by omega) (by omega) (by omega) (by omega), if_neg (by omega), jix_of (by omega) (by omega), r1, jck_of (by omega) (by omega) (by omega) (by omega), if_neg (by omega)]
          · show v.2 = _
            rw [es, i2]
            unfold sLen
            rw [if_neg (by omega)]
          · exact hrow v.1 (by rw [r0]; unfold sFi; rw [if_pos (by omega)]) (by rw [r1]; unfold sLa; rw [if_pos d]) (fun q _ _ => rfl)
        · have g0 : uI v.1 (5 * x + 1) (la x + m) (5 * x) = 100 * fi x + tr x := by rw [uI_n _ _ (by omega)]; exact r0
          by_cases g : fi x < st
          · refine ⟨(uI v.1 (5 * x + 1) (la x + m), v.2 + 1), ?_, by omega, ?_, ?_⟩
            · show f_L_law_L604_b fu st m _ _ se tr fi la sh ac no u_se u_tr u_fi u_la u_sh u_ac u_no p_eh p_we p_hf ol si k_se k_tr k_fi k_la k_sh k_ac k_no lq v.1 lh v.2 x = _
              unfold f_L_law_L604_b
              rw [jix_of (by omega) (by omega), hL.1.2.1, jck_of (by omega) (by omega) (by omega) (by omega), if_neg (by omega), jix_of (by omega) (by omega), r1, jck_of (by omega) (by omega) (by omega) (by omega), if_pos (by omega), jix_of (by omega) (by omega), jix_of (by omega) (by omega), jix_of (by omega) (by omega), g0, jre_of (by omega) (by omega) (by omega) (by omega), show (100 * fi x + tr x) / 100 = fi x by omega, jck_of (by omega) (by omega) (by omega) (by omega), if_pos g]
            · show v.2 + 1 = _
              rw [es, i2]
              unfold sLen
              rw [if_pos (by omega)]
            · exact hrow (uI v.1 (5 * x + 1) (la x + m)) (by rw [g0]; unfold sFi; rw [if_pos g]) (by rw [uI_s]; unfold sLa; rw [if_neg d]) (fun q _ h => uI_n _ _ h)
          · refine ⟨(uI (uI v.1 (5 * x + 1) (la x + m)) (5 * x) (100 * fi x + tr x + 100 * m), v.2), ?_, by omega, ?_, ?_⟩
            · show f_L_law_L604_b fu st m _ _ se tr fi la sh ac no u_se u_tr u_fi u_la u_sh u_ac u_no p_eh p_we p_hf ol si k_se k_tr k_fi k_la k_sh k_ac k_no lq v.1 lh v.2 x = _
              unfold f_L_law_L604_b
              rw [jix_of (by omega) (by omega), hL.1.2.1, jck_of (by omega) (by omega) (by omega) (by omega), if_neg (by omega), jix_of (by omega) (by omega), r1, jck_of (by omega) (by omega) (by omega) (by omega), if_pos (by omega), jix_of (by omega) (by omega), jix_of (by omega) (by omega), jix_of (by omega) (by omega), g0, jre_of (by omega) (by omega) (by omega) (by omega), show (100 * fi x + tr x) / 100 = fi x by omega, jck_of (by omega) (by omega) (by omega) (by omega), if_neg g, jix_of (by omega) (by omega), jix_of (by omega) (by omega)]
            · show v.2 = _
              rw [es, i2]
              unfold sLen
              rw [if_neg (by omega)]
            · exact hrow (uI (uI v.1 (5 * x + 1) (la x + m)) (5 * x) (100 * fi x + tr x + 100 * m)) (by rw [uI_s]; unfold sFi; rw [if_neg g]; omega) (by rw [uI_n _ _ (by omega), uI_s]; unfold sLa; rw [if_neg d]) (fun q h1 h2 => by rw [uI_n _ _ h1, uI_n _ _ h2]))
      no.toNat fu (ln, 0) 0 (by omega) (by omega) ⟨by omega, (fdA_0 _ _ _).symm, by rw [jcpy_0, jcpy_0]; exact hL.1⟩
    have e' : f_L_law_L604 fu st m (f_L_law_X681 fu d_le xc i st m J) fu se tr fi la sh ac no u_se u_tr u_fi u_la u_sh u_ac u_no p_eh p_we p_hf ol si k_se k_tr k_fi k_la k_sh k_ac k_no lq ln lh 0 0 = f_L_law_X681 fu d_le xc i st m J se tr fi la sh ac no u_se u_tr u_fi u_la u_sh u_ac u_no p_eh p_we p_hf ol si k_se k_tr k_fi k_la k_sh k_ac k_no lq p.1 lh p.2 := e
    rw [e', i2]
    unfold f_L_law_X681
    have hl : ∀ q, 0 ≤ q → q < no → la q < st ∨ la q + m < 100 := fun q q0 q1 => by have := hfar q q0 q1; omega
    obtain ⟨ol', si', k1, k2, k3, k4, k5, k6, k7, e1, hH'⟩ := ca_insert (fu := fu) (se := se) (k_se := k_se) (k_tr := k_tr) (k_fi := k_fi) (k_la := k_la) (k_sh := k_sh) (k_ac := k_ac) (k_no := k_no) (x1 := st) (x2 := m) hI hH s0 (by omega) m0 (by omega) hl hf
    have hlen := fdA_cnt (P := fun k => fi k < st ∧ st ≤ la k) n0
    have hlen' : 0 ≤ fdA (sLen fi la st) 0 0 no ∧ fdA (sLen fi la st) 0 0 no ≤ no - 0 := ⟨hlen.1, hlen.2.1⟩
    rw [e1, jb12_s, jck_of (by omega) (by omega) (by omega) (by omega), if_pos rfl]
    refine hE _ _ _ _ _ _ _ _ _ _ _ _ _ _ _ _ _ _ _ _ _ _ _ _ _ _ _ _ _ ⟨i3, INV_len hI s0 (by omega) hl, hL.2.2.1, n12, fun k k0 k1 => ?_⟩ hH' hU
    rw [jcpy_in _ _ k0 k1]
    have := hfar k k0 k1
    have := hL.2.2.2.2 k k0 k1
    unfold sLa
    split <;> omega
  · rw [if_neg c]
    exact hJ _ _ _ _ _ _ _ _ _ _ _ _ _ _ _ _ _ _ _ _ _ _ _ _ _ _ _ _ _ hL hH hU
end Q78
