/-! the law's acts: passages copied -/
def tkP (tr fi la : Int → Int) (no d k : Int) : Prop := ∃ j, 0 ≤ j ∧ j < no ∧ (tr j = tr k ∧ fi j ≤ la k + d ∧ fi k + d ≤ la j)
section Q80
variable {fu : Nat} {se tr fi la sh ac u_se u_tr u_fi u_la u_sh u_ac p_eh p_hf lq ln lh xc : Int → Int} {no u_no p_we ol si d_le i : Int} {k_se k_tr k_fi k_la k_sh k_ac : Int → Int → Int} {k_no : Int → Int}
theorem a_L994 {st b g : Int} {K : Int → Int → Int → Int → Int → Option OT} (hL : LST lq ln se tr fi la sh ac no) (s0 : 0 ≤ st) (s1 : st < 60) (b0 : st ≤ b) (b1 : b < 100) (g0 : 0 ≤ g) (g1 : g < 44) (hf : 200 ≤ fu) :
    ∃ far can, f_L_law_L994 fu lq ln st g K fu b 0 0 1 (lq 4) 0 = K b (fdA (sWit fi la st b) 0 0 no) far can no ∧ (far = 0 ∨ far = 1) ∧ (can = 0 ∨ can = 1) ∧ (far = 0 → ∀ q, 0 ≤ q → q < no → st ≤ fi q → la q ≤ b → la q + (g - st) ≤ 59) ∧ (can = 1 ↔ ∀ q, 0 ≤ q → q < no → st ≤ fi q → la q ≤ b → ¬ tkP tr fi la no (g - st) q) := by
  have hI := hL.2.1
  have hN := hI.1
  have n0 := hN.1
  have n12 := hL.2.2.2.1
  obtain ⟨p, e, i1, i2, i3, i4, i5, i6⟩ := loop_upI (L := fun q (v : Int × Int × Int) x => f_L_law_L994 fu lq ln st g K q b v.1 v.2.1 v.2.2 no x) (fun v => K b v.1 v.2.1 v.2.2 no)
    (fun x v => 0 ≤ x ∧ v.1 = fdA (sWit fi la st b) 0 0 x ∧ (v.2.1 = 0 ∨ v.2.1 = 1) ∧ (v.2.2 = 0 ∨ v.2.2 = 1) ∧ (v.2.1 = 0 → ∀ q, 0 ≤ q → q < x → st ≤ fi q → la q ≤ b → la q + (g - st) ≤ 59) ∧ (v.2.2 = 1 ↔ ∀ q, 0 ≤ q → q < x → st ≤ fi q → la q ≤ b → ¬ tkP tr fi la no (g - st) q)) no
    (fun q v hI => by
      show f_L_law_L994_b fu lq ln st g _ _ b v.1 v.2.1 v.2.2 no no = _
      unfold f_L_law_L994_b
      rw [jck_of (by omega) (by omega) (by omega) (by omega), if_pos (by omega)])
    (fun q v x hx hv => by
      obtain ⟨i1, i2, i3, i4, i5, i6⟩ := hv
      obtain ⟨a1, a2, a3, a4, a5, -, -⟩ := hN.2.2 x i1 hx
      have h60 := hL.2.2.2.2 x i1 hx
      obtain ⟨r0, r1, r2, r3⟩ := lr4 (hL.1.2.2 x i1 hx)
      have es := fdA_s (sWit fi la st b) 0 i1
      have ew : sWit fi la st b x (fdA (sWit fi la st b) 0 0 x) = if st ≤ fi x ∧ la x ≤ b then fdA (sWit fi la st b) 0 0 x + 1 else fdA (sWit fi la st b) 0 0 x := rfl
      rw [ew] at es
      by_cases w : st ≤ fi x ∧ la x ≤ b
      · rw [if_pos w] at es
        obtain ⟨z, ez, z01, zi⟩ := L_taken (fu := fu) (t := tr x) (a := fi x + (g - st)) (b := la x + (g - st)) hL.1 hN hL.2.2.2 (by omega) (by omega) (by omega) (by omega) (by omega) (by omega) (by omega)
        replace zi : z = 1 ↔ tkP tr fi la no (g - st) x := zi
        have J1063 : ∀ far, f_L_law_J1063 fu lq ln st g b v.1 v.2.2 no x (f_L_law_L994 fu lq ln st g K q) far = f_L_law_L994 fu lq ln st g K q b (v.1 + 1) far (if v.2.2 = 1 ∧ z = 0 then 1 else 0) no (x + 1) := by
          intro far
          unfold f_L_law_J1063
          rw [jck_of (by omega) (by omega) (by omega) (by omega)]
          by_cases c : v.2.2 = 0
          · rw [if_pos c, if_neg (by omega)]
          · rw [if_neg c, jix_of (by omega) (by omega), r0, jre_of (by omega) (by omega) (by omega) (by omega), jix_of (by omega) (by omega), jre_of (by omega) (by omega) (by omega) (by omega), jix_of (by omega) (by omega), r1, show (100 * fi x + tr x) / 100 = fi x by omega, show (100 * fi x + tr x) % 100 = tr x by omega, show fi x + g - st = fi x + (g - st) by omega, show la x + g - st = la x + (g - st) by omega, ez, jb_s, jck_of (by omega) (by omega) (by omega) (by omega)]
            by_cases d : z = 0
            · rw [if_neg (by omega), if_pos (by omega)]
            · rw [if_pos d, if_neg (by omega)]
        refine ⟨(v.1 + 1, if v.2.1 = 0 ∧ la x + (g - st) ≤ 59 then 0 else 1, if v.2.2 = 1 ∧ z = 0 then 1 else 0), ?_, by omega, by show v.1 + 1 = _; omega, by show (if _ then _ else _) = _ ∨ (if _ then _ else _) = _; split; exact Or.inl rfl; exact Or.inr rfl, by show (if _ then _ else _) = _ ∨ (if _ then _ else _) = _; split; exact Or.inr rfl; exact Or.inl rfl, fun h y y0 y1 y2 y3 => ?_, ?_⟩
        · show f_L_law_L994_b fu lq ln st g _ _ b v.1 v.2.1 v.2.2 no x = _
          unfold f_L_law_L994_b f_L_law_J1058
          rw [jck_of (by omega) (by omega) (by omega) (by omega), if_neg (by omega), jix_of (by omega) (by omega), r0, jre_of (by omega) (by omega) (by omega) (by omega), show (100 * fi x + tr x) / 100 = fi x by omega, jck_of (by omega) (by omega) (by omega) (by omega), if_neg (by omega), jix_of (by omega) (by omega), r1, jck_of (by omega) (by omega) (by omega) (by omega), if_pos w.2, jck_of (by omega) (by omega) (by omega) (by omega)]
          by_cases c : v.2.1 = 0
          · rw [if_neg (by omega), jix_of (by omega) (by omega), show la x + g - st = la x + (g - st) by omega, jck_of (by omega) (by omega) (by omega) (by omega)]
            by_cases d : la x + (g - st) ≤ 59
            · rw [if_pos d, J1063, if_pos (show v.2.1 = 0 ∧ la x + (g - st) ≤ 59 from ⟨c, d⟩)]
            · rw [if_neg d, J1063, if_neg (show ¬ (v.2.1 = 0 ∧ la x + (g - st) ≤ 59) from fun h => d h.2)]
          · rw [if_pos c, J1063, if_neg (show ¬ (v.2.1 = 0 ∧ la x + (g - st) ≤ 59) from fun h => c h.1)]
        · have h : (if v.2.1 = 0 ∧ la x + (g - st) ≤ 59 then (0 : Int) else 1) = 0 := h
          have h2 : v.2.1 = 0 ∧ la x + (g - st) ≤ 59 := by
            by_cases c : v.2.1 = 0 ∧ la x + (g - st) ≤ 59
            · exact c
            · rw [if_neg c] at h; omega
          by_cases c : y = x
          · rw [c]; exact h2.2
          · exact i5 h2.1 y y0 (by omega) y2 y3
        · show (if v.2.2 = 1 ∧ z = 0 then (1 : Int) else 0) = 1 ↔ _
          constructor
          · intro h y y0 y1 y2 y3
            have h2 : v.2.2 = 1 ∧ z = 0 := by
              by_cases c : v.2.2 = 1 ∧ z = 0
              · exact c
              · rw [if_neg c] at h; omega
            by_cases c : y = x
            · rw [c]
              intro ht
              have := zi.mpr ht
              omega
            · exact i6.mp h2.1 y y0 (by omega) y2 y3
          · intro h
            have h1 := i6.mpr (fun y y0 y1 y2 y3 => h y y0 (by omega) y2 y3)
            have h2 : z = 0 := by
              rcases z01 with h3 | h3
              · exact h3
              · exact absurd (zi.mp h3) (h x i1 (by omega) w.1 w.2)
            rw [if_pos ⟨h1, h2⟩]
      · rw [if_neg w] at es
        have keep : ∀ y, 0 ≤ y → y < x + 1 → st ≤ fi y → la y ≤ b → y < x := fun y y0 y1 y2 y3 => by
          by_cases c : y = x
          · subst c; exact absurd ⟨y2, y3⟩ w
          · omega
        refine ⟨v, ?_, by omega, by omega, i3, i4, fun h y y0 y1 y2 y3 => i5 h y y0 (keep y y0 y1 y2 y3) y2 y3, i6.trans ⟨fun h y y0 y1 y2 y3 => h y y0 (keep y y0 y1 y2 y3) y2 y3, fun h y y0 y1 y2 y3 => h y y0 (by omega) y2 y3⟩⟩
        show f_L_law_L994_b fu lq ln st g _ _ b v.1 v.2.1 v.2.2 no x = _
        unfold f_L_law_L994_b
        rw [jck_of (by omega) (by omega) (by omega) (by omega), if_neg (by omega), jix_of (by omega) (by omega), r0, jre_of (by omega) (by omega) (by omega) (by omega), show (100 * fi x + tr x) / 100 = fi x by omega, jck_of (by omega) (by omega) (by omega) (by omega)]
        by_cases c : fi x < st
        · rw [if_pos c]
        · rw [if_neg c, jix_of (by omega) (by omega), r1, jck_of (by omega) (by omega) (by omega) (by omega), if_neg (by omega)])
    no.toNat fu (0, 0, 1) 0 (by omega) (by omega) ⟨by omega, (fdA_0 _ _ _).symm, Or.inl rfl, Or.inr rfl, fun _ q q0 q1 => by omega, ⟨fun _ q q0 q1 => by omega, fun _ => rfl⟩⟩
  have e' : f_L_law_L994 fu lq ln st g K fu b 0 0 1 no 0 = K b p.1 p.2.1 p.2.2 no := e
  refine ⟨p.2.1, p.2.2, ?_, i3, i4, i5, i6⟩
  rw [hL.1.2.1, e', i2]
theorem a_copy {J : JT} {st b g : Int} (hE : OKE (f_L_law_J1390 fu d_le xc i J)) (hJ : OKJ J (i + 1)) (hL : LST lq ln se tr fi la sh ac no) (hH : HS ol si) (hU : AC u_ac) (s0 : 0 ≤ st) (s1 : st < 60) (b0 : st ≤ b) (b1 : b < 100) (g0 : 0 ≤ g) (g1 : g < 44) (hf : 2000 ≤ fu) :
    GD (f_L_law_L994 fu lq ln st g (f_L_law_X1129 fu d_le xc se tr fi la sh ac no u_se u_tr u_fi u_la u_sh u_ac u_no p_eh p_we p_hf ol si lq ln lh i st g J k_se k_tr k_fi k_la k_sh k_ac k_no) fu b 0 0 1 (lq 4) 0) := by
  have hI := hL.2.1
  have hN := hI.1
  have n0 := hN.1
  have n12 := hL.2.2.2.1
  obtain ⟨far, can, e, f01, c01, hfar, hcan⟩ := a_L994 (fu := fu) (K := f_L_law_X1129 fu d_le xc se tr fi la sh ac no u_se u_tr u_fi u_la u_sh u_ac u_no p_eh p_we p_hf ol si lq ln lh i st g J k_se k_tr k_fi k_la k_sh k_ac k_no) hL s0 s1 b0 b1 g0 g1 (by omega)
  have hw := wit_in fi la st b n0
  have c01' : -5 ≤ can ∧ can ≤ 5 := by omega
  rw [e]
  unfold f_L_law_X1129
  rw [jck_of (by omega) (by omega) (by omega) (by omega)]
  by_cases hf0 : far = 0
  · have hfar := hfar hf0
    rw [if_neg (by omega), jck_of (by omega) (by omega) (by omega) (by omega)]
    by_cases h12 : no + fdA (sWit fi la st b) 0 0 no ≤ 12
    · rw [if_pos h12]
      by_cases hc : can = 1
      · have hFR : FRa tr fi la no st b (g - st) := fun k k0 k1 w => ⟨by have := hfar k k0 k1 w.1 w.2; omega, hcan.mp hc k k0 k1 w.1 w.2⟩
        obtain ⟨se', tr', fi', la', sh', ac', v_se, v_tr, v_fi, v_la, v_sh, v_ac, v_no, ol', si', k1, k2, k3, k4, k5, k6, k7, e1, hse, hI', hH', hU', hrow1, hrow2⟩ := ca_copy_f (fu := fu) (se := se) (u_se := u_se) (u_tr := u_tr) (u_fi := u_fi) (u_la := u_la) (u_sh := u_sh) (u_ac := u_ac) (u_no := u_no) (k_se := k_se) (k_tr := k_tr) (k_fi := k_fi) (k_la := k_la) (k_sh := k_sh) (k_ac := k_ac) (k_no := k_no) (x1 := st) (x2 := b) (x3 := g) hI hH s0 (by omega) (by omega) b1 b0 g0 (by omega) (by omega) hFR hf
        rw [e1, jb24_s, jck_of (by omega) (by omega) (by omega) (by omega), if_neg (by omega)]
        unfold f_L_law_J1169
        rw [jck_of (by omega) (by omega) (by omega) (by omega), if_pos rfl]
        obtain ⟨p, e2, i1, i2, i3, i4, i5⟩ := loop_upI (L := fun q (v : (Int → Int) × (Int → Int)) x => f_L_law_L1177 fu st g b can no (f_L_law_X1278 fu d_le xc i J) q se' tr' fi' la' sh' ac' (no + fdA (sWit fi la st b) 0 0 no) v_se v_tr v_fi v_la v_sh v_ac v_no p_eh p_we p_hf ol' si' k1 k2 k3 k4 k5 k6 k7 v.1 v.2 lh x) (fun v => f_L_law_X1278 fu d_le xc i J se' tr' fi' la' sh' ac' (no + fdA (sWit fi la st b) 0 0 no) v_se v_tr v_fi v_la v_sh v_ac v_no p_eh p_we p_hf ol' si' k1 k2 k3 k4 k5 k6 k7 v.1 v.2 lh)
          (fun x v => 0 ≤ x ∧ v.1 4 = no + fdA (sWit fi la st b) 0 0 x ∧ (∀ k, k ≠ 4 → v.1 k = lq k) ∧ (∀ j, 0 ≤ j → j < no → lR v.2 j = cR tr fi la sh ac j) ∧ (∀ j, no ≤ j → j < no + fdA (sWit fi la st b) 0 0 x → ∃ y, 0 ≤ y ∧ y < x ∧ (st ≤ fi y ∧ la y ≤ b) ∧ no + fdA (sWit fi la st b) 0 0 y = j ∧ lR v.2 j = (100 * (fi y + (g - st)) + tr y, la y + (g - st), sh y, ac y))) no
          (fun q v hI => by
            show f_L_law_L1177_b fu st g b can no _ _ se' tr' fi' la' sh' ac' (no + fdA (sWit fi la st b) 0 0 no) v_se v_tr v_fi v_la v_sh v_ac v_no p_eh p_we p_hf ol' si' k1 k2 k3 k4 k5 k6 k7 v.1 v.2 lh no = _
            unfold f_L_law_L1177_b
            rw [jck_of (by omega) (by omega) (by omega) (by omega), if_pos (by omega)])
          (fun q v x hx hv => by
            obtain ⟨i1, i2, i3, i4, i5⟩ := hv
            obtain ⟨a1, a2, a3, a4, a5, a6, a7⟩ := hN.2.2 x i1 hx
            have h60 := hL.2.2.2.2 x i1 hx
            have hac := hI.2.1 x i1 (by omega)
            obtain ⟨r0, r1, r2, r3⟩ := lr4 (i4 x i1 hx)
            have es := fdA_s (sWit fi la st b) 0 i1
            have ew : sWit fi la st b x (fdA (sWit fi la st b) 0 0 x) = if st ≤ fi x ∧ la x ≤ b then fdA (sWit fi la st b) 0 0 x + 1 else fdA (sWit fi la st b) 0 0 x := rfl
            rw [ew] at es
            have hwx := wit_in fi la st b i1
            have hmono := wit_mono fi la st b (no - (x + 1)).toNat (x + 1) (by omega)
            rw [show x + 1 + ((no - (x + 1)).toNat : Int) = no by omega] at hmono
            by_cases w : st ≤ fi x ∧ la x ≤ b
            · rw [if_pos w] at es
              obtain ⟨ln1, ea, ea1, ea2⟩ := L_add (fu := fu) (lq := v.1) (ln := v.2) (n := no + fdA (sWit fi la st b) 0 0 x) (t := tr x) (a := fi x + (g - st)) (b := la x + (g - st)) (s_ := sh x) (x := ac x) i2 (by omega) (by omega)
              refine ⟨(uI v.1 4 (no + fdA (sWit fi la st b) 0 0 x + 1), ln1), ?_, by omega, ?_, fun k hk => ?_, fun j j0 j1 => ?_, fun j j0 j1 => ?_⟩
              · show f_L_law_L1177_b fu st g b can no _ _ se' tr' fi' la' sh' ac' (no + fdA (sWit fi la st b) 0 0 no) v_se v_tr v_fi v_la v_sh v_ac v_no p_eh p_we p_hf ol' si' k1 k2 k3 k4 k5 k6 k7 v.1 v.2 lh x = _
                unfold f_L_law_L1177_b
                rw [jck_of (by omega) (by omega) (by omega) (by omega), if_neg (by omega), jck_of (by omega) (by omega) (by omega) (by omega), if_neg (by omega), jix_of (by omega) (by omega), r0, jre_of (by omega) (by omega) (by omega) (by omega), show (100 * fi x + tr x) / 100 = fi x by omega, show (100 * fi x + tr x) % 100 = tr x by omega, jck_of (by omega) (by omega) (by omega) (by omega), if_neg (by omega), jix_of (by omega) (by omega), r1, jck_of (by omega) (by omega) (by omega) (by omega), if_neg (by omega), jix_of (by omega) (by omega), jre_of (by omega) (by omega) (by omega) (by omega), jix_of (by omega) (by omega), jix_of (by omega) (by omega), jix_of (by omega) (by omega), r2, r3, show fi x + g - st = fi x + (g - st) by omega, show la x + g - st = la x + (g - st) by omega, ea, jb2_s]
              · show uI v.1 4 (no + fdA (sWit fi la st b) 0 0 x + 1) 4 = _
                rw [uI_s]; omega
              · show uI v.1 4 (no + fdA (sWit fi la st b) 0 0 x + 1) k = _
                rw [uI_n _ _ hk]; exact i3 k hk
              · exact (ea2 j (by omega)).trans (i4 j j0 j1)
              · by_cases d : j = no + fdA (sWit fi la st b) 0 0 x
                · exact ⟨x, i1, by omega, w, d.symm, by rw [d]; exact ea1⟩
                · obtain ⟨y, y0, y1, y2, y3, y4⟩ := i5 j j0 (by omega)
                  exact ⟨y, y0, by omega, y2, y3, (ea2 j d).trans y4⟩
            · rw [if_neg w] at es
              refine ⟨v, ?_, by omega, by omega, i3, i4, fun j j0 j1 => ?_⟩
              · show f_L_law_L1177_b fu st g b can no _ _ se' tr' fi' la' sh' ac' (no + fdA (sWit fi la st b) 0 0 no) v_se v_tr v_fi v_la v_sh v_ac v_no p_eh p_we p_hf ol' si' k1 k2 k3 k4 k5 k6 k7 v.1 v.2 lh x = _
                unfold f_L_law_L1177_b
                rw [jck_of (by omega) (by omega) (by omega) (by omega), if_neg (by omega), jck_of (by omega) (by omega) (by omega) (by omega), if_neg (by omega), jix_of (by omega) (by omega), r0, jre_of (by omega) (by omega) (by omega) (by omega), show (100 * fi x + tr x) / 100 = fi x by omega, jck_of (by omega) (by omega) (by omega) (by omega)]
                by_cases c : fi x < st
                · rw [if_pos c]
                · rw [if_neg c, jix_of (by omega) (by omega), r1, jck_of (by omega) (by omega) (by omega) (by omega), if_pos (by omega)]
              · obtain ⟨y, y0, y1, y2⟩ := i5 j j0 (by omega)
                exact ⟨y, y0, by omega, y2⟩)
          no.toNat fu (lq, ln) 0 (by omega) (by omega) ⟨by omega, by rw [fdA_0]; show lq 4 = no + 0; rw [hL.1.2.1]; omega, fun k _ => rfl, fun j j0 j1 => hL.1.2.2 j j0 j1, fun j j0 j1 => by rw [fdA_0] at j1; omega⟩
        have e2' : f_L_law_L1177 fu st g b can no (f_L_law_X1278 fu d_le xc i J) fu se' tr' fi' la' sh' ac' (no + fdA (sWit fi la st b) 0 0 no) v_se v_tr v_fi v_la v_sh v_ac v_no p_eh p_we p_hf ol' si' k1 k2 k3 k4 k5 k6 k7 lq ln lh 0 = f_L_law_X1278 fu d_le xc i J se' tr' fi' la' sh' ac' (no + fdA (sWit fi la st b) 0 0 no) v_se v_tr v_fi v_la v_sh v_ac v_no p_eh p_we p_hf ol' si' k1 k2 k3 k4 k5 k6 k7 p.1 p.2 lh := e2
        rw [e2']
        unfold f_L_law_X1278
        have k1 : ∀ j, 0 ≤ j → j < no → p.2 (5 * j) = 100 * fi j + tr j := fun j j0 j1 => (lr4 (i4 j j0 j1)).1
        obtain ⟨ln2, es, es1, es2⟩ := L_sortC (fu := fu) (lq := p.1) (ln := p.2) i2 hI' h12 (fun j j0 j1 => by
          by_cases d : j < no
          · obtain ⟨q, q0, q1, q2⟩ := hrow1 j j0 d
            exact ⟨q, q0, q1, (i4 j j0 d).trans q2.symm⟩
          · obtain ⟨y, y0, y1, y2, y3, y4⟩ := i5 j (by omega) j1
            obtain ⟨q, q0, q1, q2⟩ := hrow2 y y0 y1 y2.1 y2.2
            exact ⟨q, q0, q1, y4.trans q2.symm⟩) (fun j k j0 jk kk1 => by
          by_cases d : j < no
          · rw [k1 j j0 d]
            by_cases d2 : k < no
            · rw [k1 k (by omega) d2]
              have hk : 100 * fi j + tr j < 100 * fi k + tr k := key_lt hI j k j0 jk d2
              omega
            · obtain ⟨y, y0, y1, y2, y3, y4⟩ := i5 k (by omega) kk1
              have g2 : p.2 (5 * k) = 100 * (fi y + (g - st)) + tr y := congrArg Prod.fst y4
              rw [g2]
              obtain ⟨a1, a2, a3, a4, a5, -⟩ := hN.2.2 j j0 d
              obtain ⟨b1', b2', b3', b4', b5', -⟩ := hN.2.2 y y0 y1
              intro h
              exact (hFR y y0 y1 y2).2 ⟨j, j0, d, by omega, by omega, by omega⟩
          · obtain ⟨y, y0, y1, y2, y3, y4⟩ := i5 j (by omega) (by omega)
            obtain ⟨x, x0, x1, x2, x3, x4⟩ := i5 k (by omega) kk1
            have g1' : p.2 (5 * j) = 100 * (fi y + (g - st)) + tr y := congrArg Prod.fst y4
            have g2 : p.2 (5 * k) = 100 * (fi x + (g - st)) + tr x := congrArg Prod.fst x4
            have hyx : y < x := by
              by_cases h : y < x
              · exact h
              · have := wit_mono fi la st b (y - x).toNat x x0
                rw [show x + ((y - x).toNat : Int) = y by omega] at this
                omega
            have hk : 100 * fi y + tr y < 100 * fi x + tr x := key_lt hI y x y0 hyx x1
            omega) (by omega)
        rw [es, jb_s]
        obtain ⟨q0, q1, q2, q3⟩ := hL.1.1
        refine hE _ _ _ _ _ _ _ _ _ _ _ _ _ _ _ _ _ _ _ _ _ _ _ _ _ _ _ _ _ ⟨⟨⟨?_, ?_, ?_, ?_⟩, i2, es1⟩, hI', SE_ext hL.2.2.1 hse, h12, fun k k0 k1' => ?_⟩ hH' hU'
        · rw [i3 0 (by omega), hse 0 (by omega) (by omega)]; exact q0
        · rw [i3 1 (by omega), hse 1 (by omega) (by omega)]; exact q1
        · rw [i3 2 (by omega), hse 2 (by omega) (by omega)]; exact q2
        · rw [i3 3 (by omega), hse 3 (by omega) (by omega)]; exact q3
        · obtain ⟨j, j0, j1, ej⟩ := es2 k k0 k1'
          by_cases d : j < no
          · have h := (es1 k k0 k1').symm.trans (ej.trans (i4 j j0 d))
            have h1 : la' k = la j := congrArg (fun v : Int × Int × Int × Int => v.2.1) h
            rw [h1]
            exact hL.2.2.2.2 j j0 d
          · obtain ⟨y, y0, y1, y2, y3, y4⟩ := i5 j (by omega) j1
            have h := (es1 k k0 k1').symm.trans (ej.trans y4)
            have h1 : la' k = la y + (g - st) := congrArg (fun v : Int × Int × Int × Int => v.2.1) h
            have := hfar y y0 y1 y2.1 y2.2
            omega
      · have hc0 : can = 0 := by omega
        have hFR : ¬ FRa tr fi la no st b (g - st) := fun h => hc (hcan.mpr (fun q q0 q1 q2 q3 => (h q q0 q1 ⟨q2, q3⟩).2))
        rw [ca_copy_n (fu := fu) hI s0 (by omega) (by omega) b1 b0 g0 (by omega) (by omega) hFR hf, jb24_s, jck_of (by omega) (by omega) (by omega) (by omega), if_pos hc0]
        unfold f_L_law_J1169
        rw [jck_of (by omega) (by omega) (by omega) (by omega), if_pos rfl]
        obtain ⟨ln2, es, hL2⟩ := sort_id (fu := fu) hL (by omega)
        obtain ⟨q, hq⟩ : ∃ q, fu = q + 1 := ⟨fu - 1, by omega⟩
        have e2 : f_L_law_L1177 fu st g b can no (f_L_law_X1278 fu d_le xc i J) fu se tr fi la sh ac no u_se u_tr u_fi u_la u_sh u_ac u_no p_eh p_we p_hf ol si k_se k_tr k_fi k_la k_sh k_ac k_no lq ln lh 0 = f_L_law_X1278 fu d_le xc i J se tr fi la sh ac no u_se u_tr u_fi u_la u_sh u_ac u_no p_eh p_we p_hf ol si k_se k_tr k_fi k_la k_sh k_ac k_no lq ln lh := by
          have e3 : ∀ q, f_L_law_L1177 fu st g b can no (f_L_law_X1278 fu d_le xc i J) (q + 1) se tr fi la sh ac no u_se u_tr u_fi u_la u_sh u_ac u_no p_eh p_we p_hf ol si k_se k_tr k_fi k_la k_sh k_ac k_no lq ln lh 0 = f_L_law_X1278 fu d_le xc i J se tr fi la sh ac no u_se u_tr u_fi u_la u_sh u_ac u_no p_eh p_we p_hf ol si k_se k_tr k_fi k_la k_sh k_ac k_no lq ln lh := by
            intro q
            show f_L_law_L1177_b fu st g b can no _ _ se tr fi la sh ac no u_se u_tr u_fi u_la u_sh u_ac u_no p_eh p_we p_hf ol si k_se k_tr k_fi k_la k_sh k_ac k_no lq ln lh 0 = _
            unfold f_L_law_L1177_b
            rw [jck_of (by omega) (by omega) (by omega) (by omega)]
            by_cases d : no ≤ 0
            · rw [if_pos d]
            · rw [if_neg d, jck_of (by omega) (by omega) (by omega) (by omega), if_pos hc0]
          have e4 := e3 (fu - 1)
          rw [show fu - 1 + 1 = fu by omega] at e4
          exact e4
        rw [e2]
        unfold f_L_law_X1278
        rw [es, jb_s]
        exact hE _ _ _ _ _ _ _ _ _ _ _ _ _ _ _ _ _ _ _ _ _ _ _ _ _ _ _ _ _ hL2 hH hU
    · rw [if_neg h12]
      exact hJ _ _ _ _ _ _ _ _ _ _ _ _ _ _ _ _ _ _ _ _ _ _ _ _ _ _ _ _ _ hL hH hU
  · rw [if_pos hf0]
    exact hJ _ _ _ _ _ _ _ _ _ _ _ _ _ _ _ _ _ _ _ _ _ _ _ _ _ _ _ _ _ hL hH hU
end Q80
