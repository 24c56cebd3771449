/-! the law's looking at all: the steps -/
def LST (lq ln se tr fi la sh ac : Int → Int) (no : Int) : Prop := LRm lq ln se tr fi la sh ac no ∧ INV tr fi la sh ac no ∧ SE se ∧ SM la no
def FW (H : Int → Int) (we i v : Int) : Prop := (v = -6 ∧ ∀ q, 0 ≤ q → q < i → ¬ we ≤ sbs (H q)) ∨ (0 ≤ v ∧ v < i ∧ we ≤ sbs (H v) ∧ ∀ q, 0 ≤ q → q < v → ¬ we ≤ sbs (H q))
theorem trk_rg {tr fi la : Int → Int} {s i : Int} (h : 0 ≤ i) : rg (fdA (sTrk tr fi la s) 0 0 i) :=
  fdA_inv (I := fun _ v => rg v) h rg_0 (fun j v _ _ hv => by
    show rg (if fi j ≤ s ∧ s ≤ la j then jor v (jshl 1 (tr j)) else v)
    by_cases c : fi j ≤ s ∧ s ≤ la j
    · rw [if_pos c]; exact rg_jor _ _
    · rw [if_neg c]; exact hv)
theorem nn {α : Type} {a : Int} {X Y : α} : (if a ≠ a then X else Y) = Y := if_neg (fun h => h rfl)
section Q73
variable {fu : Nat} {lq ln lh se tr fi la sh ac p_eh p_hf : Int → Int} {no p_we d_le g_si : Int}
theorem E_ST (hL : LST lq ln se tr fi la sh ac no) : ∀ s, 0 ≤ s → ST ((EHs (HO se tr fi la sh ac no) (se 2)) s) := fun s hs => EHs_ST hs hL.2.2.1.2.2.2.2.1 (HO_ST hL.2.1.1)
theorem H_hi (hL : LST lq ln se tr fi la sh ac no) : ∀ s, 60 ≤ s → (HO se tr fi la sh ac no) s = 0 := HO_hi hL.2.1.1 hL.2.2.2
theorem E_hi (hL : LST lq ln se tr fi la sh ac no) : ∀ s, 64 ≤ s → (EHs (HO se tr fi la sh ac no) (se 2)) s = 0 := fun s hs => EH_hi (H_hi hL) hL.2.2.1.2.2.2.2.2.1 hs
theorem L_heardE {s : Int} (hL : LST lq ln se tr fi la sh ac no) (h6 : E6 lh (HO se tr fi la sh ac no)) (s0 : 0 ≤ s) (s1 : s < 64) (hf : 200 ≤ fu) : f_L_heard fu lq lh s = some ((EHs (HO se tr fi la sh ac no) (se 2)) s) :=
  L_heard hL.1.1.2.2.1 hL.2.2.1.2.2.2.2.1 hL.2.2.1.2.2.2.2.2.1 h6 (HO_ST hL.2.1.1) s0 s1 hf
theorem s_L78 {s v0 : Int} {K : Int → Int → Option (Int × (Int → Int) × Int × (Int → Int) × (Int → Int))} (hL : LST lq ln se tr fi la sh ac no) (s0 : 0 ≤ s) (s1 : s < 64) (hf : 200 ≤ fu) :
    f_L_same_L78 fu lq ln s K fu 0 v0 0 = K (fdA (sTrk tr fi la s) 0 0 no) v0 := by
  obtain ⟨hR, hI, hE, hM⟩ := hL
  have n0 := hI.1.1
  have n12 := hM.1
  obtain ⟨p, e, i1, i2⟩ := loop_upI (L := fun q (v : Int) i => f_L_same_L78 fu lq ln s K q v v0 i) (fun v => K v v0)
    (fun i v => 0 ≤ i ∧ v = fdA (sTrk tr fi la s) 0 0 i) no
    (fun q v hI => by
      show f_L_same_L78_b fu lq ln s _ _ v v0 no = _
      unfold f_L_same_L78_b
      rw [jix_of (by omega) (by omega), hR.2.1, jck_of (by omega) (by omega) (by omega) (by omega), if_pos (by omega)])
    (fun q v i hi hv => by
      obtain ⟨i1, i2⟩ := hv
      obtain ⟨a1, a2, a3, a4, a5, -, -⟩ := hI.1.2.2 i i1 hi
      have h60 := hM.2 i i1 hi
      obtain ⟨r0, r1, r2, r3⟩ := lr4 (hR.2.2 i i1 hi)
      have hrg : rg v := by rw [i2]; exact trk_rg i1
      refine ⟨fdA (sTrk tr fi la s) 0 0 (i + 1), ?_, by omega, rfl⟩
      show f_L_same_L78_b fu lq ln s _ _ v v0 i = _
      unfold f_L_same_L78_b
      rw [jix_of (by omega) (by omega), hR.2.1, jck_of (by omega) (by omega) (by omega) (by omega), if_neg (by omega), jix_of (by omega) (by omega), jre_of (by omega) (by omega) (by omega) (by omega), r0, show (100 * fi i + tr i) / 100 = fi i by omega, show (100 * fi i + tr i) % 100 = tr i by omega, jck_of (by omega) (by omega) (by omega) (by omega), fdA_s _ _ i1, ← i2, jor_0 hrg]
      unfold sTrk
      by_cases c : s < fi i
      · rw [if_pos c, if_neg (by omega)]
      · rw [if_neg c, jix_of (by omega) (by omega), r1, jck_of (by omega) (by omega) (by omega) (by omega)]
        by_cases d : la i < s
        · rw [if_pos d, if_neg (by omega)]
        · rw [if_neg d, if_pos (by omega), jix_of (by omega) (by omega), jre_of (by omega) (by omega) (by omega) (by omega)])
    no.toNat fu 0 0 (by omega) (by omega) ⟨by omega, by rw [fdA_0]⟩
  have e' : f_L_same_L78 fu lq ln s K fu 0 v0 0 = K p v0 := e
  rw [e', i2]
theorem s_J216 {s v172 v174 v176 v178 v179 v180 : Int} {J : (Int → Int) → Int → (Int → Int) → (Int → Int) → Int → Int → Int → Int → Int → Option (Int × (Int → Int) × Int × (Int → Int) × (Int → Int))} (hL : LST lq ln se tr fi la sh ac no) (h6 : E6 lh (HO se tr fi la sh ac no)) (s0 : 0 ≤ s) (s1 : s < 64) (h4 : v174 = (EHs (HO se tr fi la sh ac no) (se 2)) s) (h5 : v176 = fdA (sTrk tr fi la s) 0 0 no) (hf : 500 ≤ fu) :
    ∃ eh' we' hf', f_L_same_J216 fu se tr fi la sh ac no lq p_eh p_we p_hf lh v172 s v174 v176 v178 v179 J v180 = J eh' we' hf' lh v178 v180 v179 v172 (s + 1) := by
  have hN := hL.2.1.1
  have hE := hL.2.2.1
  have hA := hL.2.1.2.1
  have q3 := hL.1.1.2.2.2
  have r1 := (HO_ST (se := se) (ac := ac) hN s).rg
  have r2 := (E_ST hL s s0).rg
  have r3 := trk_rg (tr := tr) (fi := fi) (la := la) (s := s) hN.1
  have b := sbs_in ((HO se tr fi la sh ac no) s)
  have w1 := hE.2.2.2.2.2.2.1
  have w2 := hE.2.2.2.2.2.2.2
  have hs6 := h6 s s0 s1
  obtain ⟨e1, x1, y1, c1⟩ := ca_at (fu := fu) (p_eh := p_eh) (p_we := p_we) (p_hf := p_hf) (x1 := s) (x2 := 0) hN hE hA s0 (by omega) (Or.inl ⟨rfl, rfl⟩) hf
  obtain ⟨e2, x2, y2, c2⟩ := ca_at (fu := fu) (p_eh := e1) (p_we := x1) (p_hf := y1) (x1 := s) (x2 := 1) hN hE hA s0 (by omega) (Or.inr (Or.inl ⟨rfl, rfl⟩)) hf
  obtain ⟨e3, x3, y3, c3⟩ := ca_at (fu := fu) (p_eh := e2) (p_we := x2) (p_hf := y2) (x1 := s) (x2 := 2) hN hE hA s0 (by omega) (Or.inr (Or.inr (Or.inl ⟨rfl, rfl⟩))) hf
  obtain ⟨e4, x4, y4, c4⟩ := ca_at (fu := fu) (p_eh := e3) (p_we := x3) (p_hf := y3) (x1 := s) (x2 := 3) hN hE hA s0 (by omega) (Or.inr (Or.inr (Or.inr (Or.inl ⟨rfl, rfl⟩)))) hf
  obtain ⟨e5, x5, y5, c5⟩ := ca_at (fu := fu) (p_eh := e4) (p_we := x4) (p_hf := y4) (x1 := s) (x2 := 4) hN hE hA s0 (by omega) (Or.inr (Or.inr (Or.inr (Or.inr ⟨rfl, rfl⟩)))) hf
  refine ⟨e5, x5, y5, ?_⟩
  unfold f_L_same_J216
  rw [h4, h5, c1, jb4_s, jix_of s0 s1, hs6, jck_rg r1 r1, nn, c2, jb4_s, jck_rg r2 r2, nn, c3, jb4_s, jck_rg r3 r3, nn, c4, jb4_s, jix_of s0 s1, L_side (HO_ST hN s) (by omega), jb_s, jck_of (by omega) (by omega) (by omega) (by omega), nn, c5, jb4_s, jix_of s0 s1, jb_s, jix_of (by omega) (by omega), q3, jck_of (by omega) (by omega) (by omega) (by omega)]
  unfold f_L_same_J301
  by_cases c : se 3 ≤ sbs ((HO se tr fi la sh ac no) s)
  · rw [if_pos c, if_neg (by omega), jck_of (by omega) (by omega) (by omega) (by omega), if_pos rfl]
  · rw [if_neg c, if_pos (by omega), jck_of (by omega) (by omega) (by omega) (by omega), if_pos rfl]
theorem s_step {s v169 v170 v171 v172 v174 v175 : Int} {J : (Int → Int) → Int → (Int → Int) → (Int → Int) → Int → Int → Int → Int → Int → Option (Int × (Int → Int) × Int × (Int → Int) × (Int → Int))} (hL : LST lq ln se tr fi la sh ac no) (h6 : E6 lh (HO se tr fi la sh ac no)) (s0 : 0 ≤ s) (s1 : s < 64) (h4 : v174 = (EHs (HO se tr fi la sh ac no) (se 2)) s) (h5 : v175 = if s = 0 then 0 else (EHs (HO se tr fi la sh ac no) (se 2)) (s - 1)) (hF : FW (HO se tr fi la sh ac no) (se 3) s v170) (hf : 500 ≤ fu) :
    ∃ eh' we' hf' v', f_L_same_J70 fu se tr fi la sh ac no lq ln p_eh p_we p_hf lh v169 v170 v171 v172 s v174 J v175 = J eh' we' hf' lh (v169 + bitN ((HO se tr fi la sh ac no) s)) v' (v171 + bitN (jand ((EHs (HO se tr fi la sh ac no) (se 2)) s) (jxor (if s = 0 then 0 else (EHs (HO se tr fi la sh ac no) (se 2)) (s - 1)) (-1)))) v172 (s + 1) ∧ FW (HO se tr fi la sh ac no) (se 3) (s + 1) v' := by
  have hN := hL.2.1.1
  have hE := hL.2.2.1
  have q3 := hL.1.1.2.2.2
  have b := sbs_in ((HO se tr fi la sh ac no) s)
  have w1 := hE.2.2.2.2.2.2.1
  have w2 := hE.2.2.2.2.2.2.2
  have hs6 := h6 s s0 s1
  have hb : ST (if s = 0 then 0 else (EHs (HO se tr fi la sh ac no) (se 2)) (s - 1)) := by
    by_cases c : s = 0
    · rw [if_pos c]; exact ST_0
    · rw [if_neg c]; exact E_ST hL _ (by omega)
  have hd := (bit_andn (t := 0) (E_ST hL s s0) hb (by omega) (by omega)).1
  unfold f_L_same_J70
  rw [s_L78 hL s0 s1 (by omega)]
  unfold f_L_same_X139
  rw [jix_of s0 s1, hs6, pc146 (HO_ST hN s) (by omega)]
  unfold f_L_same_X166
  rw [h4, h5, pc170 hd (by omega)]
  unfold f_L_same_X190 f_L_same_J214
  have hv : -6 ≤ v170 ∧ v170 < 64 := by
    rcases hF with ⟨h, -⟩ | ⟨h, h', -⟩ <;> omega
  rw [jck_of (by omega) (by omega) (by omega) (by omega)]
  by_cases c : 0 ≤ v170
  · obtain ⟨eh', we', hf', e⟩ := s_J216 (fu := fu) (p_eh := p_eh) (p_we := p_we) (p_hf := p_hf) (lh := lh) (s := s) (v172 := v172) (v174 := (EHs (HO se tr fi la sh ac no) (se 2)) s) (v176 := fdA (sTrk tr fi la s) 0 0 no) (v178 := v169 + bitN ((HO se tr fi la sh ac no) s)) (v179 := v171 + bitN (jand ((EHs (HO se tr fi la sh ac no) (se 2)) s) (jxor (if s = 0 then 0 else (EHs (HO se tr fi la sh ac no) (se 2)) (s - 1)) (-1)))) (v180 := v170) (J := J) hL h6 s0 s1 rfl rfl hf
    rw [if_pos c, e]
    refine ⟨_, _, _, _, rfl, ?_⟩
    rcases hF with ⟨h, -⟩ | ⟨h, h', h2⟩
    · omega
    · exact Or.inr ⟨h, by omega, h2⟩
  · have hF' : ∀ q, 0 ≤ q → q < s → ¬ se 3 ≤ sbs ((HO se tr fi la sh ac no) q) := by
      rcases hF with ⟨h, h'⟩ | ⟨h, h', h2⟩
      · exact h'
      · omega
    have hv6 : v170 = -6 := by
      rcases hF with ⟨h, -⟩ | ⟨h, -⟩
      · exact h
      · omega
    rw [if_neg c, jix_of s0 s1, hs6, L_side (HO_ST hN s) (by omega), jb_s, jix_of (by omega) (by omega), q3, jck_of (by omega) (by omega) (by omega) (by omega)]
    by_cases d : se 3 ≤ sbs ((HO se tr fi la sh ac no) s)
    · obtain ⟨eh', we', hf', e⟩ := s_J216 (fu := fu) (p_eh := p_eh) (p_we := p_we) (p_hf := p_hf) (lh := lh) (s := s) (v172 := v172) (v174 := (EHs (HO se tr fi la sh ac no) (se 2)) s) (v176 := fdA (sTrk tr fi la s) 0 0 no) (v178 := v169 + bitN ((HO se tr fi la sh ac no) s)) (v179 := v171 + bitN (jand ((EHs (HO se tr fi la sh ac no) (se 2)) s) (jxor (if s = 0 then 0 else (EHs (HO se tr fi la sh ac no) (se 2)) (s - 1)) (-1)))) (v180 := s) (J := J) hL h6 s0 s1 rfl rfl hf
      rw [if_neg (by omega), e]
      exact ⟨_, _, _, _, rfl, Or.inr ⟨s0, by omega, d, hF'⟩⟩
    · obtain ⟨eh', we', hf', e⟩ := s_J216 (fu := fu) (p_eh := p_eh) (p_we := p_we) (p_hf := p_hf) (lh := lh) (s := s) (v172 := v172) (v174 := (EHs (HO se tr fi la sh ac no) (se 2)) s) (v176 := fdA (sTrk tr fi la s) 0 0 no) (v178 := v169 + bitN ((HO se tr fi la sh ac no) s)) (v179 := v171 + bitN (jand ((EHs (HO se tr fi la sh ac no) (se 2)) s) (jxor (if s = 0 then 0 else (EHs (HO se tr fi la sh ac no) (se 2)) (s - 1)) (-1)))) (v180 := v170) (J := J) hL h6 s0 s1 rfl rfl hf
      rw [if_pos (by omega), e]
      refine ⟨_, _, _, _, rfl, Or.inl ⟨hv6, fun q q0 q1 => ?_⟩⟩
      by_cases g : q = s
      · rw [g]; exact d
      · exact hF' q q0 (by omega)
theorem s_part1 {K : (Int → Int) → Int → (Int → Int) → (Int → Int) → Int → Int → Int → Int → Option (Int × (Int → Int) × Int × (Int → Int) × (Int → Int))} (hL : LST lq ln se tr fi la sh ac no) (h6 : E6 lh (HO se tr fi la sh ac no)) (hf : 500 ≤ fu) :
    ∃ eh' we' hf' v', f_L_same_L29 fu se tr fi la sh ac no lq ln K fu p_eh p_we p_hf lh 0 (-6) 0 (-6) 0 = K eh' we' hf' lh (holN (HO se tr fi la sh ac no)) v' (sndN (EHs (HO se tr fi la sh ac no) (se 2))) (-6) ∧ FW (HO se tr fi la sh ac no) (se 3) 64 v' := by
  obtain ⟨p, e, i1, i2, i3, i4⟩ := loop_upI (L := fun q (v : (Int → Int) × Int × (Int → Int) × Int × Int × Int) i => f_L_same_L29 fu se tr fi la sh ac no lq ln K q v.1 v.2.1 v.2.2.1 lh v.2.2.2.1 v.2.2.2.2.1 v.2.2.2.2.2 (-6) i) (fun v => K v.1 v.2.1 v.2.2.1 lh v.2.2.2.1 v.2.2.2.2.1 v.2.2.2.2.2 (-6))
    (fun i v => 0 ≤ i ∧ v.2.2.2.1 = sm (fun s => bitN ((HO se tr fi la sh ac no) s)) i ∧ FW (HO se tr fi la sh ac no) (se 3) i v.2.2.2.2.1 ∧ v.2.2.2.2.2 = sm (fun s => bitN (jand ((EHs (HO se tr fi la sh ac no) (se 2)) s) (jxor (if s = 0 then 0 else (EHs (HO se tr fi la sh ac no) (se 2)) (s - 1)) (-1)))) i) 64
    (fun q v hI => by
      show f_L_same_L29_b fu se tr fi la sh ac no lq ln _ _ v.1 v.2.1 v.2.2.1 lh v.2.2.2.1 v.2.2.2.2.1 v.2.2.2.2.2 (-6) 64 = _
      unfold f_L_same_L29_b
      rw [jck_of (by omega) (by omega) (by omega) (by omega), if_pos (by omega)])
    (fun q v i hi hI => by
      obtain ⟨i1, i2, i3, i4⟩ := hI
      have hgo : f_L_same_L29 fu se tr fi la sh ac no lq ln K (q + 1) v.1 v.2.1 v.2.2.1 lh v.2.2.2.1 v.2.2.2.2.1 v.2.2.2.2.2 (-6) i = f_L_same_J70 fu se tr fi la sh ac no lq ln v.1 v.2.1 v.2.2.1 lh v.2.2.2.1 v.2.2.2.2.1 v.2.2.2.2.2 (-6) i ((EHs (HO se tr fi la sh ac no) (se 2)) i) (f_L_same_L29 fu se tr fi la sh ac no lq ln K q) (if i = 0 then 0 else (EHs (HO se tr fi la sh ac no) (se 2)) (i - 1)) := by
        show f_L_same_L29_b fu se tr fi la sh ac no lq ln _ _ v.1 v.2.1 v.2.2.1 lh v.2.2.2.1 v.2.2.2.2.1 v.2.2.2.2.2 (-6) i = _
        unfold f_L_same_L29_b
        rw [jck_of (by omega) (by omega) (by omega) (by omega), if_neg (by omega), L_heardE hL h6 i1 hi (by omega), jb_s, jck_of (by omega) (by omega) (by omega) (by omega)]
        by_cases c : i = 0
        · rw [if_neg (by omega), if_pos c]
        · rw [if_pos c, if_neg c, L_heardE hL h6 (by omega) (by omega) (by omega), jb_s]
      obtain ⟨eh', we', hf', v', e, hF⟩ := s_step (fu := fu) (p_eh := v.1) (p_we := v.2.1) (p_hf := v.2.2.1) (lh := lh) (s := i) (v169 := v.2.2.2.1) (v170 := v.2.2.2.2.1) (v171 := v.2.2.2.2.2) (v172 := -6) (v174 := (EHs (HO se tr fi la sh ac no) (se 2)) i) (v175 := if i = 0 then 0 else (EHs (HO se tr fi la sh ac no) (se 2)) (i - 1)) (J := f_L_same_L29 fu se tr fi la sh ac no lq ln K q) hL h6 i1 hi rfl rfl i3 hf
      refine ⟨(eh', we', hf', v.2.2.2.1 + bitN ((HO se tr fi la sh ac no) i), v', v.2.2.2.2.2 + bitN (jand ((EHs (HO se tr fi la sh ac no) (se 2)) i) (jxor (if i = 0 then 0 else (EHs (HO se tr fi la sh ac no) (se 2)) (i - 1)) (-1)))), ?_, by omega, ?_, hF, ?_⟩
      · exact hgo.trans e
      · show v.2.2.2.1 + bitN ((HO se tr fi la sh ac no) i) = _
        rw [sm_s _ i1, i2]
      · show v.2.2.2.2.2 + bitN (jand ((EHs (HO se tr fi la sh ac no) (se 2)) i) (jxor (if i = 0 then 0 else (EHs (HO se tr fi la sh ac no) (se 2)) (i - 1)) (-1))) = _
        rw [sm_s _ i1, i4])
    64 fu (p_eh, p_we, p_hf, 0, -6, 0) 0 (by omega) (by omega) ⟨by omega, (sm_0 _).symm, Or.inl ⟨rfl, fun q q0 q1 => by omega⟩, (sm_0 _).symm⟩
  have e' : f_L_same_L29 fu se tr fi la sh ac no lq ln K fu p_eh p_we p_hf lh 0 (-6) 0 (-6) 0 = K p.1 p.2.1 p.2.2.1 lh p.2.2.2.1 p.2.2.2.2.1 p.2.2.2.2.2 (-6) := e
  refine ⟨p.1, p.2.1, p.2.2.1, p.2.2.2.2.1, ?_, i3⟩
  rw [e', i2, i4, hol_sm (fun s hs => H_hi hL s (by omega)), snd_sm (E_ST hL) (E_hi hL)]
end Q73
