/-! the law's looking at all: the notes -/
def LW (la : Int → Int) (i v : Int) : Prop := (∀ k, 0 ≤ k → k < i → la k ≤ v) ∧ ((i = 0 ∧ v = -6) ∨ ∃ k, 0 ≤ k ∧ k < i ∧ la k = v)
section Q74
variable {fu : Nat} {lq ln lh se tr fi la sh ac p_eh p_hf : Int → Int} {no p_we d_le g_si : Int}
theorem s_L357 {n : Int} {K : Int → Int → Int → Int → Option (Int × (Int → Int) × Int × (Int → Int) × (Int → Int))} (hL : LST lq ln se tr fi la sh ac no) (h6 : E6 lh (HO se tr fi la sh ac no)) (n0 : 0 ≤ n) (n1 : n < no) (hf : 500 ≤ fu) :
    f_L_same_L357 fu lq ln lh n K fu (tr n) 0 0 0 1 (fi n) = K (tr n) (fdA (sBri se fi la sh n) 0 (fi n) (la n + 1)) (fdA (sLon se fi la sh n) (0, 0) (fi n) (la n + 1)).1 (whO (EHs (HO se tr fi la sh ac no) (se 2)) tr fi la n) := by
  obtain ⟨a1, a2, a3, a4, a5, a6, a7⟩ := hL.2.1.1.2.2 n n0 n1
  have h60 := hL.2.2.2.2 n n0 n1
  have n12 := hL.2.2.2.1
  obtain ⟨r0, r1, r2, r3⟩ := lr4 (hL.1.2.2 n n0 n1)
  obtain ⟨p, e, i1, i2, i3, i4, i5, i6, i7, i8⟩ := loop_upI (L := fun q (v : Int × (Int × Int) × Int) i => f_L_same_L357 fu lq ln lh n K q (tr n) v.1 v.2.1.2 v.2.1.1 v.2.2 i) (fun v => K (tr n) v.1 v.2.1.1 v.2.2)
    (fun i v => fi n ≤ i ∧ v.1 = fdA (sBri se fi la sh n) 0 (fi n) i ∧ v.2.1 = fdA (sLon se fi la sh n) (0, 0) (fi n) i ∧ v.2.2 = fdA (whS (EHs (HO se tr fi la sh ac no) (se 2)) (tr n)) 1 (fi n) i ∧ (0 ≤ v.2.1.1 ∧ v.2.1.1 ≤ i - fi n) ∧ (0 ≤ v.2.1.2 ∧ v.2.1.2 ≤ i - fi n) ∧ (v.2.2 = 0 ∨ v.2.2 = 1) ∧ True) (la n + 1)
    (fun q v hI => by
      show f_L_same_L357_b fu lq ln lh n _ _ (tr n) v.1 v.2.1.2 v.2.1.1 v.2.2 (la n + 1) = _
      unfold f_L_same_L357_b
      rw [jix_of (by omega) (by omega), r1, jck_of (by omega) (by omega) (by omega) (by omega), if_pos (by omega)])
    (fun q v i hi hI => by
      obtain ⟨i1, i2, i3, i4, i5, i6, i7, -⟩ := hI
      have hh := hol_01 se fi la sh n i
      have m1 := jmax_l (a := v.2.1.1) (b := if hol se fi la sh n i = 0 then v.2.1.2 + 1 else 0)
      have m2 := jmax_or (a := v.2.1.1) (b := if hol se fi la sh n i = 0 then v.2.1.2 + 1 else 0)
      have hrow : 0 ≤ (if hol se fi la sh n i = 0 then v.2.1.2 + 1 else 0) ∧ (if hol se fi la sh n i = 0 then v.2.1.2 + 1 else 0) ≤ i + 1 - fi n := by split <;> omega
      have hw9 : (if v.2.2 = 1 ∧ jand (jshr ((EHs (HO se tr fi la sh ac no) (se 2)) i) (tr n)) 1 = 1 then (1 : Int) else 0) = 0 ∨ (if v.2.2 = 1 ∧ jand (jshr ((EHs (HO se tr fi la sh ac no) (se 2)) i) (tr n)) 1 = 1 then (1 : Int) else 0) = 1 := by
        split
        · exact Or.inr rfl
        · exact Or.inl rfl
      have J425 : ∀ br row most, f_L_same_J425 fu lq lh (tr n) v.1 v.2.2 i br row (f_L_same_L357 fu lq ln lh n K q) most = f_L_same_L357 fu lq ln lh n K q (tr n) (v.1 + br) row most (if v.2.2 = 1 ∧ jand (jshr ((EHs (HO se tr fi la sh ac no) (se 2)) i) (tr n)) 1 = 1 then 1 else 0) (i + 1) := by
        intro br row most
        unfold f_L_same_J425
        rw [jck_of (by omega) (by omega) (by omega) (by omega)]
        by_cases c : v.2.2 = 0
        · rw [if_pos c, if_neg (fun h => by omega)]
        · rw [if_neg c, L_heardE hL h6 (by omega) (by omega) (by omega), jb_s, jck_rg (rg_jand _ _) rg_1]
          by_cases d : jand (jshr ((EHs (HO se tr fi la sh ac no) (se 2)) i) (tr n)) 1 = 1
          · rw [if_neg (fun h => h d), if_pos ⟨by omega, d⟩]
          · rw [if_pos d, if_neg (fun h => d h.2)]
      have J409 : ∀ br row, -1000 ≤ row → row ≤ 1000 → f_L_same_J409 fu lq lh (tr n) v.1 v.2.1.1 v.2.2 i br (f_L_same_L357 fu lq ln lh n K q) row = f_L_same_L357 fu lq ln lh n K q (tr n) (v.1 + br) row (jmax v.2.1.1 row) (if v.2.2 = 1 ∧ jand (jshr ((EHs (HO se tr fi la sh ac no) (se 2)) i) (tr n)) 1 = 1 then 1 else 0) (i + 1) := by
        intro br row w0 w1
        unfold f_L_same_J409 jmax
        rw [jck_of (by omega) (by omega) (by omega) (by omega)]
        by_cases c : row ≤ v.2.1.1
        · rw [if_pos c, J425, if_neg (show ¬ v.2.1.1 < row by omega)]
        · rw [if_neg c, J425, if_pos (show v.2.1.1 < row by omega)]
      refine ⟨(v.1 + (if hol se fi la sh n i = 0 then 1 else 0), (jmax v.2.1.1 (if hol se fi la sh n i = 0 then v.2.1.2 + 1 else 0), if hol se fi la sh n i = 0 then v.2.1.2 + 1 else 0), if v.2.2 = 1 ∧ jand (jshr ((EHs (HO se tr fi la sh ac no) (se 2)) i) (tr n)) 1 = 1 then 1 else 0), ?_, by omega, ?_, ?_, ?_, ⟨?_, ?_⟩, hrow, hw9, trivial⟩
      · show f_L_same_L357_b fu lq ln lh n _ _ (tr n) v.1 v.2.1.2 v.2.1.1 v.2.2 i = f_L_same_L357 fu lq ln lh n K q (tr n) (v.1 + (if hol se fi la sh n i = 0 then 1 else 0)) (if hol se fi la sh n i = 0 then v.2.1.2 + 1 else 0) (jmax v.2.1.1 (if hol se fi la sh n i = 0 then v.2.1.2 + 1 else 0)) (if v.2.2 = 1 ∧ jand (jshr ((EHs (HO se tr fi la sh ac no) (se 2)) i) (tr n)) 1 = 1 then 1 else 0) (i + 1)
        unfold f_L_same_L357_b
        rw [jix_of (by omega) (by omega), r1, jck_of (by omega) (by omega) (by omega) (by omega), if_neg (by omega), L_hole hL.1 hL.2.1.1 hL.2.2.1 hL.2.2.2 n0 n1 i1 (by omega) (by omega), jb_s, jck_of (by omega) (by omega) (by omega) (by omega)]
        unfold f_L_same_J393
        by_cases c : hol se fi la sh n i = 0
        · rw [if_pos c, jck_of (by omega) (by omega) (by omega) (by omega), if_pos c, J409 _ _ (by omega) (by omega), if_pos c, if_pos c]
        · rw [if_neg c, jck_of (by omega) (by omega) (by omega) (by omega), if_neg c, J409 _ _ (by omega) (by omega), if_neg c, if_neg c]
      · show v.1 + (if hol se fi la sh n i = 0 then 1 else 0) = _
        rw [fdA_s _ _ i1, ← i2]
        unfold sBri
        by_cases c : hol se fi la sh n i = 0
        · rw [if_pos c, if_pos c]
        · rw [if_neg c, if_neg c, Int.add_zero]
      · show (jmax v.2.1.1 (if hol se fi la sh n i = 0 then v.2.1.2 + 1 else 0), if hol se fi la sh n i = 0 then v.2.1.2 + 1 else 0) = _
        rw [fdA_s _ _ i1, ← i3]
        unfold sLon
        by_cases c : hol se fi la sh n i = 0
        · rw [if_pos c, if_pos c]
        · rw [if_neg c, if_neg c]
      · show (if v.2.2 = 1 ∧ jand (jshr ((EHs (HO se tr fi la sh ac no) (se 2)) i) (tr n)) 1 = 1 then 1 else 0) = _
        rw [fdA_s _ _ i1, ← i4]
        rfl
      · show 0 ≤ jmax v.2.1.1 (if hol se fi la sh n i = 0 then v.2.1.2 + 1 else 0)
        omega
      · show jmax v.2.1.1 (if hol se fi la sh n i = 0 then v.2.1.2 + 1 else 0) ≤ i + 1 - fi n
        omega)
    (la n + 1 - fi n).toNat fu (0, (0, 0), 1) (fi n) (by omega) (by omega) ⟨by omega, (fdA_0 _ _ _).symm, (fdA_0 _ _ _).symm, (fdA_0 _ _ _).symm, ⟨by show (0 : Int) ≤ 0; omega, by show (0 : Int) ≤ _; omega⟩, ⟨by show (0 : Int) ≤ 0; omega, by show (0 : Int) ≤ _; omega⟩, Or.inr rfl, trivial⟩
  have e' : f_L_same_L357 fu lq ln lh n K fu (tr n) 0 0 0 1 (fi n) = K (tr n) p.1 p.2.1.1 p.2.2 := e
  rw [e', i2, i3, i4]
  rfl
theorem s_J503 {n v112 v119 v120 : Int} {J : (Int → Int) → Int → (Int → Int) → (Int → Int) → Int → Int → Int → Option (Int × (Int → Int) × Int × (Int → Int) × (Int → Int))} (hL : LST lq ln se tr fi la sh ac no) (n0 : 0 ≤ n) (n1 : n < no) (hf : 500 ≤ fu) :
    ∃ eh' we' hf', f_L_same_J503 fu se tr fi la sh ac no ln p_eh p_we p_hf lh v112 n (tr n) (fdA (sBri se fi la sh n) 0 (fi n) (la n + 1)) (fdA (sLon se fi la sh n) (0, 0) (fi n) (la n + 1)).1 (whO (EHs (HO se tr fi la sh ac no) (se 2)) tr fi la n) v119 J v120 = J eh' we' hf' lh (v112 + v119) v120 (n + 1) := by
  have hN := hL.2.1.1
  have hE := hL.2.2.1
  have hA := hL.2.1.2.1
  obtain ⟨a1, a2, a3, a4, a5, a6, a7⟩ := hN.2.2 n n0 n1
  have n12 := hL.2.2.2.1
  have hac := hA n n0 (by omega)
  obtain ⟨r0, r1, r2, r3⟩ := lr4 (hL.1.2.2 n n0 n1)
  have wh : whO (EHs (HO se tr fi la sh ac no) (se 2)) tr fi la n = 0 ∨ whO (EHs (HO se tr fi la sh ac no) (se 2)) tr fi la n = 1 := whO_01 _ _ (by omega)
  have hbr : 0 ≤ fdA (sBri se fi la sh n) 0 (fi n) (la n + 1) ∧ fdA (sBri se fi la sh n) 0 (fi n) (la n + 1) ≤ la n + 1 - fi n :=
    fdA_inv (I := fun i m => 0 ≤ m ∧ m ≤ i - fi n) (by omega) ⟨by omega, by omega⟩ (fun j m _ _ h => by
      unfold sBri
      by_cases c : hol se fi la sh n j = 0
      · rw [if_pos c]; omega
      · rw [if_neg c]; omega)
  have hlo : (0 ≤ (fdA (sLon se fi la sh n) (0, 0) (fi n) (la n + 1)).1 ∧ (fdA (sLon se fi la sh n) (0, 0) (fi n) (la n + 1)).1 ≤ la n + 1 - fi n) ∧ 0 ≤ (fdA (sLon se fi la sh n) (0, 0) (fi n) (la n + 1)).2 ∧ (fdA (sLon se fi la sh n) (0, 0) (fi n) (la n + 1)).2 ≤ la n + 1 - fi n :=
    fdA_inv (I := fun i (m : Int × Int) => (0 ≤ m.1 ∧ m.1 ≤ i - fi n) ∧ 0 ≤ m.2 ∧ m.2 ≤ i - fi n) (by omega) ⟨⟨by show (0 : Int) ≤ 0; omega, by show (0 : Int) ≤ _; omega⟩, by show (0 : Int) ≤ 0; omega, by show (0 : Int) ≤ _; omega⟩ (fun j m _ _ h => by
      unfold sLon
      by_cases c : hol se fi la sh n j = 0
      · rw [if_pos c]
        have := jmax_or (a := m.1) (b := m.2 + 1)
        have := jmax_l (a := m.1) (b := m.2 + 1)
        exact ⟨⟨by show 0 ≤ jmax _ _; omega, by show jmax _ _ ≤ _; omega⟩, by show 0 ≤ m.2 + 1; omega, by show m.2 + 1 ≤ _; omega⟩
      · rw [if_neg c]
        have := jmax_or (a := m.1) (b := 0)
        have := jmax_l (a := m.1) (b := 0)
        exact ⟨⟨by show 0 ≤ jmax _ _; omega, by show jmax _ _ ≤ _; omega⟩, by show (0 : Int) ≤ 0; omega, by show (0 : Int) ≤ _; omega⟩)
  obtain ⟨e0, x0, y0, c0⟩ := ca_of (fu := fu) (p_eh := p_eh) (p_we := p_we) (p_hf := p_hf) (x1 := n) (x2 := 0) hN hE hA n0 n1 (Or.inl ⟨rfl, rfl⟩) hf
  obtain ⟨e1, x1, y1, c1⟩ := ca_of (fu := fu) (p_eh := e0) (p_we := x0) (p_hf := y0) (x1 := n) (x2 := 1) hN hE hA n0 n1 (Or.inr (Or.inl ⟨rfl, rfl⟩)) hf
  obtain ⟨e2, x2, y2, c2⟩ := ca_of (fu := fu) (p_eh := e1) (p_we := x1) (p_hf := y1) (x1 := n) (x2 := 2) hN hE hA n0 n1 (Or.inr (Or.inr (Or.inl ⟨rfl, rfl⟩))) hf
  obtain ⟨e3, x3, y3, c3⟩ := ca_of (fu := fu) (p_eh := e2) (p_we := x2) (p_hf := y2) (x1 := n) (x2 := 3) hN hE hA n0 n1 (Or.inr (Or.inr (Or.inr (Or.inl ⟨rfl, rfl⟩)))) hf
  obtain ⟨e4, x4, y4, c4⟩ := ca_of (fu := fu) (p_eh := e3) (p_we := x3) (p_hf := y3) (x1 := n) (x2 := 4) hN hE hA n0 n1 (Or.inr (Or.inr (Or.inr (Or.inr (Or.inl ⟨rfl, rfl⟩))))) hf
  obtain ⟨e5, x5, y5, c5⟩ := ca_of (fu := fu) (p_eh := e4) (p_we := x4) (p_hf := y4) (x1 := n) (x2 := 5) hN hE hA n0 n1 (Or.inr (Or.inr (Or.inr (Or.inr (Or.inr (Or.inl ⟨rfl, rfl⟩)))))) hf
  obtain ⟨e6, x6, y6, c6⟩ := ca_of (fu := fu) (p_eh := e5) (p_we := x5) (p_hf := y5) (x1 := n) (x2 := 6) hN hE hA n0 n1 (Or.inr (Or.inr (Or.inr (Or.inr (Or.inr (Or.inr (Or.inl ⟨rfl, rfl⟩))))))) hf
  obtain ⟨e7, x7, y7, c7⟩ := ca_of (fu := fu) (p_eh := e6) (p_we := x6) (p_hf := y6) (x1 := n) (x2 := 7) hN hE hA n0 n1 (Or.inr (Or.inr (Or.inr (Or.inr (Or.inr (Or.inr (Or.inr ⟨rfl, rfl⟩))))))) hf
  refine ⟨e7, x7, y7, ?_⟩
  unfold f_L_same_J503
  rw [c0, jb4_s, jck_of (by omega) (by omega) (by omega) (by omega), nn, c1, jb4_s, jix_of (by omega) (by omega), jre_of (by omega) (by omega) (by omega) (by omega), r0, show (100 * fi n + tr n) / 100 = fi n by omega, jck_of (by omega) (by omega) (by omega) (by omega), nn, c2, jb4_s, jix_of (by omega) (by omega), r1, jck_of (by omega) (by omega) (by omega) (by omega), nn, c3, jb4_s, jix_of (by omega) (by omega), r2, jck_of (by omega) (by omega) (by omega) (by omega), nn, c4, jb4_s, jix_of (by omega) (by omega), r3, jck_of (by omega) (by omega) (by omega) (by omega), nn, c5, jb4_s, jck_of (by omega) (by omega) (by omega) (by omega), nn, c6, jb4_s, jck_of (by omega) (by omega) (by omega) (by omega), nn, c7, jb4_s, jck_of (by omega) (by omega) (by omega) (by omega)]
  unfold f_L_same_J633
  rcases wh with w | w
  · rw [w, if_pos rfl, jck_of (by omega) (by omega) (by omega) (by omega), if_pos rfl]
  · rw [w, if_neg (by omega), jck_of (by omega) (by omega) (by omega) (by omega), if_pos rfl]
theorem s_part2 {K : (Int → Int) → Int → (Int → Int) → (Int → Int) → Int → Int → Option (Int × (Int → Int) × Int × (Int → Int) × (Int → Int))} (hL : LST lq ln se tr fi la sh ac no) (h6 : E6 lh (HO se tr fi la sh ac no)) (hf : 500 ≤ fu) :
    ∃ eh' we' hf' v', f_L_same_L315 fu se tr fi la sh ac no lq ln K fu p_eh p_we p_hf lh 0 (-6) 0 = K eh' we' hf' lh (gapN (EHs (HO se tr fi la sh ac no) (se 2)) tr fi la no) v' ∧ LW la no v' := by
  have n0 := hL.2.1.1.1
  have n12 := hL.2.2.2.1
  obtain ⟨p, e, i1, i2, i3⟩ := loop_upI (L := fun q (v : (Int → Int) × Int × (Int → Int) × Int × Int) i => f_L_same_L315 fu se tr fi la sh ac no lq ln K q v.1 v.2.1 v.2.2.1 lh v.2.2.2.1 v.2.2.2.2 i) (fun v => K v.1 v.2.1 v.2.2.1 lh v.2.2.2.1 v.2.2.2.2)
    (fun i v => 0 ≤ i ∧ v.2.2.2.1 = fdA (fun k m => if whO (EHs (HO se tr fi la sh ac no) (se 2)) tr fi la k = 0 then m + 1 else m) 0 0 i ∧ LW la i v.2.2.2.2) no
    (fun q v hI => by
      show f_L_same_L315_b fu se tr fi la sh ac no lq ln _ _ v.1 v.2.1 v.2.2.1 lh v.2.2.2.1 v.2.2.2.2 no = _
      unfold f_L_same_L315_b
      rw [jix_of (by omega) (by omega), hL.1.2.1, jck_of (by omega) (by omega) (by omega) (by omega), if_pos (by omega)])
    (fun q v i hi hI => by
      obtain ⟨i1, i2, i3⟩ := hI
      obtain ⟨a1, a2, a3, a4, a5, a6, a7⟩ := hL.2.1.1.2.2 i i1 hi
      have h60 := hL.2.2.2.2 i i1 hi
      obtain ⟨r0, r1, r2, r3⟩ := lr4 (hL.1.2.2 i i1 hi)
      have wh : whO (EHs (HO se tr fi la sh ac no) (se 2)) tr fi la i = 0 ∨ whO (EHs (HO se tr fi la sh ac no) (se 2)) tr fi la i = 1 := whO_01 _ _ (by omega)
      have hlast : -6 ≤ v.2.2.2.2 ∧ v.2.2.2.2 < 60 := by
        rcases i3.2 with ⟨h, h'⟩ | ⟨k, k0, k1, k2⟩
        · omega
        · have := hL.2.2.2.2 k k0 (by omega)
          have := hL.2.1.1.2.2 k k0 (by omega)
          omega
      obtain ⟨m1, m2, m3⟩ : LW la (i + 1) (if la i ≤ v.2.2.2.2 then v.2.2.2.2 else la i) ∧ True ∧ True := by
        refine ⟨⟨fun k k0 k1 => ?_, ?_⟩, trivial, trivial⟩
        · by_cases c : k = i
          · rw [c]; split <;> omega
          · have := i3.1 k k0 (by omega)
            split <;> omega
        · by_cases c : la i ≤ v.2.2.2.2
          · rw [if_pos c]
            rcases i3.2 with ⟨h, h'⟩ | ⟨k, k0, k1, k2⟩
            · omega
            · exact Or.inr ⟨k, k0, by omega, k2⟩
          · rw [if_neg c]
            exact Or.inr ⟨i, i1, by omega, rfl⟩
      obtain ⟨eh', we', hf', e⟩ := s_J503 (fu := fu) (p_eh := v.1) (p_we := v.2.1) (p_hf := v.2.2.1) (lh := lh) (n := i) (v112 := v.2.2.2.1) (v119 := if whO (EHs (HO se tr fi la sh ac no) (se 2)) tr fi la i = 0 then 1 else 0) (v120 := if la i ≤ v.2.2.2.2 then v.2.2.2.2 else la i) (J := f_L_same_L315 fu se tr fi la sh ac no lq ln K q) hL i1 hi hf
      refine ⟨(eh', we', hf', v.2.2.2.1 + (if whO (EHs (HO se tr fi la sh ac no) (se 2)) tr fi la i = 0 then 1 else 0), if la i ≤ v.2.2.2.2 then v.2.2.2.2 else la i), ?_, by omega, ?_, m1⟩
      · refine Eq.trans ?_ e
        show f_L_same_L315_b fu se tr fi la sh ac no lq ln _ _ v.1 v.2.1 v.2.2.1 lh v.2.2.2.1 v.2.2.2.2 i = _
        unfold f_L_same_L315_b
        rw [jix_of (by omega) (by omega), hL.1.2.1, jck_of (by omega) (by omega) (by omega) (by omega), if_neg (by omega), jix_of (by omega) (by omega), jre_of (by omega) (by omega) (by omega) (by omega), jix_of (by omega) (by omega), jre_of (by omega) (by omega) (by omega) (by omega), r0, show (100 * fi i + tr i) / 100 = fi i by omega, show (100 * fi i + tr i) % 100 = tr i by omega, s_L357 hL h6 i1 hi hf]
        unfold f_L_same_X462 f_L_same_J474
        rw [jck_of (by omega) (by omega) (by omega) (by omega)]
        rcases wh with w | w
        · rw [if_pos w, jix_of (by omega) (by omega), r1, jck_of (by omega) (by omega) (by omega) (by omega), if_pos w]
          by_cases c : la i ≤ v.2.2.2.2
          · rw [if_pos c, if_pos c]
          · rw [if_neg c, if_neg c, jix_of (by omega) (by omega)]
        · have w' : ¬ whO (EHs (HO se tr fi la sh ac no) (se 2)) tr fi la i = 0 := by omega
          rw [if_neg w', jix_of (by omega) (by omega), r1, jck_of (by omega) (by omega) (by omega) (by omega), if_neg w']
          by_cases c : la i ≤ v.2.2.2.2
          · rw [if_pos c, if_pos c]
          · rw [if_neg c, if_neg c, jix_of (by omega) (by omega)]
      · show v.2.2.2.1 + (if whO (EHs (HO se tr fi la sh ac no) (se 2)) tr fi la i = 0 then 1 else 0) = _
        rw [fdA_s _ _ i1, ← i2]
        rcases wh with w | w
        · rw [if_pos w, if_pos w]
        · rw [if_neg (by omega), if_neg (by omega), Int.add_zero])
    no.toNat fu (p_eh, p_we, p_hf, 0, -6) 0 (by omega) (by omega) ⟨by omega, (fdA_0 _ _ _).symm, fun k k0 k1 => by omega, Or.inl ⟨rfl, rfl⟩⟩
  have e' : f_L_same_L315 fu se tr fi la sh ac no lq ln K fu p_eh p_we p_hf lh 0 (-6) 0 = K p.1 p.2.1 p.2.2.1 lh p.2.2.2.1 p.2.2.2.2 := e
  refine ⟨p.1, p.2.1, p.2.2.1, p.2.2.2.2, ?_, i3⟩
  rw [e', i2]
  rfl
end Q74
