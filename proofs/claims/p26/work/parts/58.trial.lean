/-! best shift, greatest run -/
theorem uI_uI {α : Type} (f : Int → α) (i : Int) (x y : α) : uI (uI f i x) i y = uI f i y := by
  funext q
  unfold uI
  by_cases c : q = i
  · rw [if_pos c, if_pos c]
  · rw [if_neg c, if_neg c, if_neg c]
theorem uI_id {α : Type} (f : Int → α) (i : Int) : uI f i (f i) = f := by
  funext q
  unfold uI
  by_cases c : q = i
  · rw [if_pos c, c]
  · rw [if_neg c]
theorem EQn.sy {n : Int} {f g : Int → Int} (h : EQn n f g) : EQn n g f := fun q h1 h2 => (h q h1 h2).symm
def bS (W : Int → Int) (i : Int) (p : Int × Int) : Int × Int := if p.2 ≤ W i then p else (i, W i)
section Q58
variable {fu : Nat} {st se tr fi la sh ac ho p_eh p_hf u_se u_tr u_fi u_la u_sh u_ac : Int → Int} {no u_no p_we : Int}
theorem l_bestS {x1 x2 : Int} {W : Int → Int} (hN : NT tr fi la sh no) (hE : SE se) (hA : AC ac) (c1 : 0 ≤ x1) (c2 : x1 < no) (hx : -1000 ≤ x2 ∧ x2 ≤ 1000) (hW : ∀ v, W v = wkN (HO se tr fi la (uI sh x1 v) ac no) (se 3)) (hf : 1000 ≤ fu) :
    ∃ sh' eh' we' hf', f_X4_bestShift_L45 fu x1 (f_X4_bestShift_X102 fu x2) fu se tr fi la sh ac no p_eh p_we p_hf 0 101 0 = some (if x2 ≠ 0 then (fdA (bS W) (0, 101) 0 13).2 else (fdA (bS W) (0, 101) 0 13).1, se, tr, fi, la, sh', ac, no, eh', we', hf') := by
  have n1 := hN.2.1
  obtain ⟨p, e, i1, i2, i3, i4⟩ := loop_upI (L := fun q (s : (Int → Int) × (Int → Int) × Int × (Int → Int) × Int × Int) i => f_X4_bestShift_L45 fu x1 (f_X4_bestShift_X102 fu x2) q se tr fi la s.1 ac no s.2.1 s.2.2.1 s.2.2.2.1 s.2.2.2.2.1 s.2.2.2.2.2 i) (fun s => f_X4_bestShift_X102 fu x2 se tr fi la s.1 ac no s.2.1 s.2.2.1 s.2.2.2.1 s.2.2.2.2.1 s.2.2.2.2.2)
    (fun i s => 0 ≤ i ∧ (s.1 = sh ∨ ∃ w, s.1 = uI sh x1 w) ∧ s.2.2.2.2 = fdA (bS W) (0, 101) 0 i ∧ (0 ≤ s.2.2.2.2.2 ∧ s.2.2.2.2.2 ≤ 101)) 13
    (fun q s hI => by
      show f_X4_bestShift_L45_b fu x1 _ _ se tr fi la s.1 ac no s.2.1 s.2.2.1 s.2.2.2.1 s.2.2.2.2.1 s.2.2.2.2.2 13 = _
      unfold f_X4_bestShift_L45_b
      rw [jck_of (by omega) (by omega) (by omega) (by omega), if_pos (by omega)])
    (fun q s i hi hI => by
      obtain ⟨i1, i2, i3, i4, i5⟩ := hI
      have eu : uI s.1 x1 i = uI sh x1 i := by
        rcases i2 with h | ⟨w, h⟩
        · rw [h]
        · rw [h, uI_uI]
      have hN' : NT tr fi la (uI sh x1 i) no := by
        refine ⟨hN.1, n1, fun k k0 k1 => ?_⟩
        obtain ⟨a1, a2, a3, a4, a5, a6, a7⟩ := hN.2.2 k k0 k1
        refine ⟨a1, a2, a3, a4, a5, ?_⟩
        unfold uI
        by_cases c : k = x1
        · rw [if_pos c]; omega
        · rw [if_neg c]; exact ⟨a6, a7⟩
      obtain ⟨e1, o1, e, g1, g2⟩ := q_perforate (fu := fu) (eh := s.2.1) (ho := s.2.2.2.1) (we := s.2.2.1) hN' hE hA (by omega)
      have w1 : 0 ≤ se 3 := by have := hE.2.2.2.2.2.2; omega
      have w2 := hE.2.2.2.2.2.2.2
      have hw := wkN_in (HO se tr fi la (uI sh x1 i) ac no) (se 3)
      rw [← hW i] at hw
      refine ⟨(uI sh x1 i, e1, se 3, o1, bS W i s.2.2.2.2), ?_, by omega, Or.inr ⟨i, rfl⟩, by rw [fdA_s _ _ i1, ← i3], ?_⟩
      · show f_X4_bestShift_L45_b fu x1 _ _ se tr fi la s.1 ac no s.2.1 s.2.2.1 s.2.2.2.1 s.2.2.2.2.1 s.2.2.2.2.2 i = f_X4_bestShift_L45 fu x1 (f_X4_bestShift_X102 fu x2) q se tr fi la (uI sh x1 i) ac no e1 (se 3) o1 (bS W i s.2.2.2.2).1 (bS W i s.2.2.2.2).2 (i + 1)
        unfold f_X4_bestShift_L45_b
        rw [jck_of (by omega) (by omega) (by omega) (by omega), if_neg (by omega), q_giveShift c1 c2 n1, jb_s, eu, e, jb3_s, q_weakSteps w1 w2 (by omega), jb_s, wkN_congr g1, ← hW i, jck_of (by omega) (by omega) (by omega) (by omega)]
        unfold bS
        by_cases c : s.2.2.2.2.2 ≤ W i
        · rw [if_pos c, if_pos c]
        · rw [if_neg c, if_neg c]
      · show 0 ≤ (bS W i s.2.2.2.2).2 ∧ (bS W i s.2.2.2.2).2 ≤ 101
        unfold bS
        by_cases c : s.2.2.2.2.2 ≤ W i
        · rw [if_pos c]; exact ⟨i4, i5⟩
        · rw [if_neg c]; exact ⟨hw.1, by show W i ≤ 101; omega⟩)
    13 fu (sh, p_eh, p_we, p_hf, 0, 101) 0 (by omega) (by omega) ⟨by omega, Or.inl rfl, by rw [fdA_0], by show (0:Int) ≤ 101; omega, by show (101:Int) ≤ 101; omega⟩
  have e' : f_X4_bestShift_L45 fu x1 (f_X4_bestShift_X102 fu x2) fu se tr fi la sh ac no p_eh p_we p_hf 0 101 0 = f_X4_bestShift_X102 fu x2 se tr fi la p.1 ac no p.2.1 p.2.2.1 p.2.2.2.1 p.2.2.2.2.1 p.2.2.2.2.2 := e
  refine ⟨p.1, p.2.1, p.2.2.1, p.2.2.2.1, ?_⟩
  rw [e', ← i3]
  unfold f_X4_bestShift_X102
  rw [jck_of (by omega) (by omega) (by omega) (by omega)]
  by_cases c : x2 = 0
  · rw [if_neg (by omega), if_neg (by omega)]
  · rw [if_pos c, if_pos c]
end Q58

