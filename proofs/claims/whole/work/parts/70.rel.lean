/-! all that the class and the model hold, side by side -/
def wMHs (y : Nat → ClassId) (a : Nat → Nat → Nat) (sv : Int → Int) (r_se : Int → Int) (r_tr : Int → Int) (r_fi : Int → Int) (r_la : Int → Int) (r_sh : Int → Int) (r_ac : Int → Int) (r_no : Int) (u_se : Int → Int) (u_tr : Int → Int) (u_fi : Int → Int) (u_la : Int → Int) (u_sh : Int → Int) (u_ac : Int → Int) (u_no : Int) (p_eh : Int → Int) (p_we : Int) (p_hf : Int → Int) (d_tx : Int → Int) (d_le : Int) (d_po : Int) (d_pt : Int → Int) (d_pf : Int → Int) (d_pl : Int → Int) (d_pa : Int → Int) (d_fo : Int) (g_ol : Int) (g_si : Int) (k_se : Int → Int → Int) (k_tr : Int → Int → Int) (k_fi : Int → Int → Int) (k_la : Int → Int → Int) (k_sh : Int → Int → Int) (k_ac : Int → Int → Int) (k_no : Int → Int) (s_se : Int → Int → Int) (s_tr : Int → Int → Int) (s_fi : Int → Int → Int) (s_la : Int → Int → Int) (s_sh : Int → Int → Int) (s_ac : Int → Int → Int) (s_no : Int → Int) : List va_W := [(wMh y (a 0) (a 1) (a 2) (a 3) (a 4) (a 5) (fun k => a (12 + k)) sv), (wRo y (a 1) r_se r_tr r_fi r_la r_sh r_ac r_no), (wRo y (a 2) u_se u_tr u_fi u_la u_sh u_ac u_no), (wPa y (a 3) p_eh p_we), (wAr y (a 3 2) 100 p_hf), (wPd y (a 4) d_tx d_le d_po d_pt d_pf d_pl d_pa d_fo), (wHi y (a 5) (fun k => a (6 + k)) g_ol g_si), (wRo y (a 6) (k_se 0) (k_tr 0) (k_fi 0) (k_la 0) (k_sh 0) (k_ac 0) (k_no 0)), (wRo y (a 7) (k_se 1) (k_tr 1) (k_fi 1) (k_la 1) (k_sh 1) (k_ac 1) (k_no 1)), (wRo y (a 8) (k_se 2) (k_tr 2) (k_fi 2) (k_la 2) (k_sh 2) (k_ac 2) (k_no 2)), (wRo y (a 9) (k_se 3) (k_tr 3) (k_fi 3) (k_la 3) (k_sh 3) (k_ac 3) (k_no 3)), (wRo y (a 10) (k_se 4) (k_tr 4) (k_fi 4) (k_la 4) (k_sh 4) (k_ac 4) (k_no 4)), (wRo y (a 11) (k_se 5) (k_tr 5) (k_fi 5) (k_la 5) (k_sh 5) (k_ac 5) (k_no 5)), (wRo y (a 12) (s_se 0) (s_tr 0) (s_fi 0) (s_la 0) (s_sh 0) (s_ac 0) (s_no 0)), (wRo y (a 13) (s_se 1) (s_tr 1) (s_fi 1) (s_la 1) (s_sh 1) (s_ac 1) (s_no 1))]
def wMOs (y : Nat → ClassId) (b : Nat → Nat → Nat) (rc : Int) (is_ : Int → Int) (pd : Int → Int) (pn : Int) (ho : Int → Int) (eh : Int → Int) (mv : Int → Int) (at_ : Int) (tk : Int) (fs : Int) (lt : Int) (ea : Int) (stf : Int → Int) (kpf : Int → Int) (hsf : Int → Int) (slf : Int → Int) : List va_W := [(wMo y (b 0) rc is_ pd pn ho eh mv at_ tk fs lt ea), (wAr y (b 0 6) 205 stf), (wAr y (b 0 7) 205 kpf), (wAr y (b 0 8) 1230 hsf), (wAr y (b 0 9) 410 slf)]
def LREL (y : Nat → ClassId) (ha hb : Nat) (cs ms : List va_W) : Prop := ∃ (a b : Nat → Nat → Nat) (sv : Int → Int) (r_se : Int → Int) (r_tr : Int → Int) (r_fi : Int → Int) (r_la : Int → Int) (r_sh : Int → Int) (r_ac : Int → Int) (r_no : Int) (u_se : Int → Int) (u_tr : Int → Int) (u_fi : Int → Int) (u_la : Int → Int) (u_sh : Int → Int) (u_ac : Int → Int) (u_no : Int) (p_eh : Int → Int) (p_we : Int) (p_hf : Int → Int) (d_tx : Int → Int) (d_le : Int) (d_po : Int) (d_pt : Int → Int) (d_pf : Int → Int) (d_pl : Int → Int) (d_pa : Int → Int) (d_fo : Int) (g_ol : Int) (g_si : Int) (k_se : Int → Int → Int) (k_tr : Int → Int → Int) (k_fi : Int → Int → Int) (k_la : Int → Int → Int) (k_sh : Int → Int → Int) (k_ac : Int → Int → Int) (k_no : Int → Int) (s_se : Int → Int → Int) (s_tr : Int → Int → Int) (s_fi : Int → Int → Int) (s_la : Int → Int → Int) (s_sh : Int → Int → Int) (s_ac : Int → Int → Int) (s_no : Int → Int) (rc : Int) (is_ : Int → Int) (pd : Int → Int) (pn : Int) (ho : Int → Int) (eh : Int → Int) (mv : Int → Int) (at_ : Int) (tk : Int) (fs : Int) (lt : Int) (ea : Int) (stf : Int → Int) (kpf : Int → Int) (hsf : Int → Int) (slf : Int → Int), (a 0 0 = ha ∧ b 0 0 = hb) ∧ (RSt stf r_se r_tr r_fi r_la r_sh r_ac r_no ∧ HRt rc hsf g_ol g_si k_se k_tr k_fi k_la k_sh k_ac k_no ∧ SLt sv is_ slf s_se s_tr s_fi s_la s_sh s_ac s_no ∧ PDt d_tx d_le pd pn ∧ AC u_ac) ∧ cs = wMHs y a sv r_se r_tr r_fi r_la r_sh r_ac r_no u_se u_tr u_fi u_la u_sh u_ac u_no p_eh p_we p_hf d_tx d_le d_po d_pt d_pf d_pl d_pa d_fo g_ol g_si k_se k_tr k_fi k_la k_sh k_ac k_no s_se s_tr s_fi s_la s_sh s_ac s_no ∧ ms = wMOs y b rc is_ pd pn ho eh mv at_ tk fs lt ea stf kpf hsf slf
theorem REL_0 : RSt jSI jFI (fun _ => 0) (fun _ => 0) (fun _ => 0) (fun _ => 0) (fun _ => 0) 0 ∧ HRt 0 (fun _ => 0) 0 0 (fun _ => jFI) (fun _ _ => 0) (fun _ _ => 0) (fun _ _ => 0) (fun _ _ => 0) (fun _ _ => 0) (fun _ => 0) ∧ SLt (fun _ => 0) (fun _ => 0) (fun _ => 0) (fun _ => jFI) (fun _ _ => 0) (fun _ _ => 0) (fun _ _ => 0) (fun _ _ => 0) (fun _ _ => 0) (fun _ => 0) ∧ PDt (fun _ => 0) 0 (fun _ => 0) 0 ∧ AC (fun _ => 0) := by
  have e0 : jFI 0 = 3 := rfl
  have e1 : jFI 1 = 1 := rfl
  have e2 : jFI 2 = 1 := rfl
  have e3 : jFI 3 = 4 := rfl
  refine ⟨⟨⟨⟨rfl, rfl, rfl, rfl⟩, rfl, fun k k0 k1 => ?_⟩, ⟨?_, ?_, fun k k0 k1 => ?_⟩, ?_, fun k k0 k1 => ?_, fun j k j0 jk k1 => ?_, fun j k j0 jk k1 => ?_⟩, ⟨rfl, ⟨?_, ?_⟩, ⟨?_, ?_⟩, fun q q0 q1 => ?_⟩, fun j j0 j1 => ⟨Or.inl rfl, rfl, fun z => ?_⟩, ⟨?_, ?_, rfl, fun k k0 k1 => ?_⟩, fun k k0 k1 => Or.inl rfl⟩
  · exact absurd k1 (by omega)
  · omega
  · omega
  · exact absurd k1 (by omega)
  · unfold SE
    rw [e0, e1, e2, e3]
    omega
  · exact Or.inl rfl
  · exact absurd k1 (by omega)
  · exact absurd k1 (by omega)
  · omega
  · omega
  · omega
  · omega
  · exact absurd q1 (by omega)
  · exact absurd z (by show ¬ (0 : Int) = 1; omega)
  · omega
  · omega
  · exact absurd k1 (by omega)
theorem LREL_0 (y : Nat → ClassId) (a b : Nat → Nat → Nat) : LREL y (a 0 0) (b 0 0) (wf_MH y a) (wf_MO y b) :=
  ⟨a, b, fun _ => 0, jFI, fun _ => 0, fun _ => 0, fun _ => 0, fun _ => 0, fun _ => 0, 0, jFI, fun _ => 0, fun _ => 0, fun _ => 0, fun _ => 0, fun _ => 0, 0, fun _ => 0, 0, fun _ => 0, fun _ => 0, 0, 0, fun _ => 0, fun _ => 0, fun _ => 0, fun _ => 0, 0, 0, 0, fun _ => jFI, fun _ _ => 0, fun _ _ => 0, fun _ _ => 0, fun _ _ => 0, fun _ _ => 0, fun _ => 0, fun _ => jFI, fun _ _ => 0, fun _ _ => 0, fun _ _ => 0, fun _ _ => 0, fun _ _ => 0, fun _ => 0, 0, fun _ => 0, fun _ => 0, 0, fun _ => 0, fun _ => 0, fun _ => 0, 0, 0, 0, 0, 0, jSI, fun _ => 0, fun _ => 0, fun _ => 0, ⟨rfl, rfl⟩, REL_0, rfl, rfl⟩
theorem LREL_a {y : Nat → ClassId} {ha hb : Nat} {cs ms : List va_W} (h : LREL y ha hb cs ms) : ∃ f1 f2, cs.flatten[0]? = some (ha, .inr (4, f1)) ∧ ms.flatten[0]? = some (hb, .inr (5, f2)) := by
  obtain ⟨a, b, sv, r_se, r_tr, r_fi, r_la, r_sh, r_ac, r_no, u_se, u_tr, u_fi, u_la, u_sh, u_ac, u_no, p_eh, p_we, p_hf, d_tx, d_le, d_po, d_pt, d_pf, d_pl, d_pa, d_fo, g_ol, g_si, k_se, k_tr, k_fi, k_la, k_sh, k_ac, k_no, s_se, s_tr, s_fi, s_la, s_sh, s_ac, s_no, rc, is_, pd, pn, ho, eh, mv, at_, tk, fs, lt, ea, stf, kpf, hsf, slf, ⟨rfl, rfl⟩, -, rfl, rfl⟩ := h
  exact ⟨_, _, rfl, rfl⟩
