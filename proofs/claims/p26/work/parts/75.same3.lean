/-! the law's looking at all: the sounds of a track, the counts, all together -/
theorem sm_bd {f : Int → Int} {B : Int} : ∀ n : Nat, (∀ s : Int, 0 ≤ s → s < n → 0 ≤ f s ∧ f s ≤ B) → 0 ≤ sm f n ∧ sm f n ≤ B * n
  | 0, _ => by rw [show ((0 : Nat) : Int) = 0 from rfl, sm_0, Int.mul_zero]; exact ⟨Int.le_refl _, Int.le_refl _⟩
  | n + 1, h => by
    have h1 := sm_bd n (fun s s0 s1 => h s s0 (by omega))
    have h2 := h n (by omega) (by omega)
    rw [show ((n + 1 : Nat) : Int) = (n : Int) + 1 by omega, sm_s _ (by omega), Int.mul_add, Int.mul_one]
    omega
theorem bitN_in {v : Int} (h : ST v) : 0 ≤ bitN v ∧ bitN v ≤ 12 := by
  have := sm_bd (f := fun t => jand (jshr v t) 1) (B := 1) 12 (fun t t0 t1 => by
    show 0 ≤ jand (jshr v t) 1 ∧ jand (jshr v t) 1 ≤ 1
    have t2 : t < 12 := by omega
    have := bit_01 (v := v) (t := t) h t0 t2
    omega)
  exact ⟨this.1, by have h2 := this.2; rw [Int.one_mul] at h2; exact h2⟩
section Q75
variable {fu : Nat} {lq ln lh se tr fi la sh ac p_eh p_hf : Int → Int} {no p_we d_le g_si t : Int}
theorem hol_in (hL : LST lq ln se tr fi la sh ac no) : 0 ≤ holN (HO se tr fi la sh ac no) ∧ holN (HO se tr fi la sh ac no) ≤ 768 := by
  rw [hol_sm (fun s hs => H_hi hL s (by omega))]
  have := sm_bd (f := fun s => bitN ((HO se tr fi la sh ac no) s)) (B := 12) 64 (fun s _ _ => bitN_in (HO_ST hL.2.1.1 s))
  exact ⟨this.1, this.2⟩
theorem snd_in (EH : Int → Int) : 0 ≤ sndN EH ∧ sndN EH ≤ 1200 := by
  have := sm_bd (f := fun t => stN EH t 100) (B := 100) 12 (fun s _ _ => stN_in EH s (by omega))
  exact ⟨this.1, this.2⟩
def swC (EH tr fi : Int → Int) (t n s : Int) : Int := if (tr n = t ∧ fi n = s) ∧ 0 < s ∧ jand (jshr (EH (s - 1)) t) 1 = 1 then 1 else 0
theorem s_L726 {s b v : Int} {K : Int → Option (Int × (Int → Int) × Int × (Int → Int) × (Int → Int))} (hL : LST lq ln se tr fi la sh ac no) (t0 : 0 ≤ t) (t1 : t < 12) (s0 : 0 ≤ s) (s1 : s < 64) (hb : b = if 0 < s ∧ jand (jshr ((EHs (HO se tr fi la sh ac no) (se 2)) (s - 1)) t) 1 = 1 then 1 else 0) (hf : 200 ≤ fu) :
    f_L_same_L726 fu lq ln t s b K fu v 0 = K (v + sm (fun n => swC (EHs (HO se tr fi la sh ac no) (se 2)) tr fi t n s) no) := by
  obtain ⟨hR, hI, hE, hM⟩ := hL
  have n0 := hI.1.1
  have n12 := hM.1
  have hb2 : b = 0 ∨ b = 1 := by rw [hb]; split; exact Or.inr rfl; exact Or.inl rfl
  obtain ⟨p, e, i1, i2⟩ := loop_upI (L := fun q (w : Int) i => f_L_same_L726 fu lq ln t s b K q w i) K
    (fun i w => 0 ≤ i ∧ w = v + sm (fun n => swC (EHs (HO se tr fi la sh ac no) (se 2)) tr fi t n s) i) no
    (fun q w hI => by
      show f_L_same_L726_b fu lq ln t s b _ _ w no = _
      unfold f_L_same_L726_b
      rw [jix_of (by omega) (by omega), hR.2.1, jck_of (by omega) (by omega) (by omega) (by omega), if_pos (by omega)])
    (fun q w i hi hw => by
      obtain ⟨i1, i2⟩ := hw
      obtain ⟨a1, a2, a3, a4, a5, -, -⟩ := hI.1.2.2 i i1 hi
      have h60 := hM.2 i i1 hi
      obtain ⟨r0, r1, r2, r3⟩ := lr4 (hR.2.2 i i1 hi)
      refine ⟨w + swC (EHs (HO se tr fi la sh ac no) (se 2)) tr fi t i s, ?_, by omega, by rw [sm_s _ i1, i2]; omega⟩
      show f_L_same_L726_b fu lq ln t s b _ _ w i = _
      unfold f_L_same_L726_b
      rw [jix_of (by omega) (by omega), hR.2.1, jck_of (by omega) (by omega) (by omega) (by omega), if_neg (by omega), jix_of (by omega) (by omega), r0, jck_of (by omega) (by omega) (by omega) (by omega)]
      unfold swC
      by_cases c : tr i = t ∧ fi i = s
      · rw [if_neg (by omega), jck_of (by omega) (by omega) (by omega) (by omega), hb]
        by_cases d : 0 < s ∧ jand (jshr ((EHs (HO se tr fi la sh ac no) (se 2)) (s - 1)) t) 1 = 1
        · rw [if_pos d, if_neg (by omega), if_pos ⟨c, d⟩]
        · rw [if_neg d, if_pos rfl, if_neg (fun h => d h.2)]
      · rw [if_pos (by omega), if_neg (fun h => c h.1)])
    no.toNat fu v 0 (by omega) (by omega) ⟨by omega, by rw [sm_0, Int.add_zero]⟩
  have e' : f_L_same_L726 fu lq ln t s b K fu v 0 = K p := e
  rw [e', i2]
theorem s_L827 {s r : Int} {K : Int → Option (Int × (Int → Int) × Int × (Int → Int) × (Int → Int))} (hL : LST lq ln se tr fi la sh ac no) (t0 : 0 ≤ t) (t1 : t < 12) (s0 : 0 ≤ s) (s1 : s < 64) (r0' : 0 ≤ r) (r1' : r < 64) (hf : 200 ≤ fu) :
    f_L_same_L827 fu lq ln t s r K fu 0 0 = K (fdA (sTou tr fi la t s r) 0 0 no) := by
  obtain ⟨hR, hI, hE, hM⟩ := hL
  have n0 := hI.1.1
  have n12 := hM.1
  obtain ⟨p, e, i1, i2⟩ := loop_upI (L := fun q (w : Int) i => f_L_same_L827 fu lq ln t s r K q w i) K
    (fun i w => 0 ≤ i ∧ w = fdA (sTou tr fi la t s r) 0 0 i) no
    (fun q w hI => by
      show f_L_same_L827_b fu lq ln t s r _ _ w no = _
      unfold f_L_same_L827_b
      rw [jix_of (by omega) (by omega), hR.2.1, jck_of (by omega) (by omega) (by omega) (by omega), if_pos (by omega)])
    (fun q w i hi hw => by
      obtain ⟨i1, i2⟩ := hw
      obtain ⟨a1, a2, a3, a4, a5, -, -⟩ := hI.1.2.2 i i1 hi
      have h60 := hM.2 i i1 hi
      obtain ⟨r0, r1, r2, r3⟩ := lr4 (hR.2.2 i i1 hi)
      refine ⟨fdA (sTou tr fi la t s r) 0 0 (i + 1), ?_, by omega, rfl⟩
      show f_L_same_L827_b fu lq ln t s r _ _ w i = _
      unfold f_L_same_L827_b
      rw [jix_of (by omega) (by omega), hR.2.1, jck_of (by omega) (by omega) (by omega) (by omega), if_neg (by omega), jix_of (by omega) (by omega), jre_of (by omega) (by omega) (by omega) (by omega), r0, show (100 * fi i + tr i) / 100 = fi i by omega, show (100 * fi i + tr i) % 100 = tr i by omega, jck_of (by omega) (by omega) (by omega) (by omega), fdA_s _ _ i1, ← i2]
      unfold sTou
      by_cases c : tr i = t
      · rw [if_neg (by omega), jix_of (by omega) (by omega), jre_of (by omega) (by omega) (by omega) (by omega), jck_of (by omega) (by omega) (by omega) (by omega)]
        by_cases d : r < fi i
        · rw [if_pos d, if_neg (by omega), Int.add_zero]
        · rw [if_neg d, jix_of (by omega) (by omega), r1, jck_of (by omega) (by omega) (by omega) (by omega)]
          by_cases g : la i < s
          · rw [if_pos g, if_neg (by omega), Int.add_zero]
          · rw [if_neg g, if_pos (by omega)]
      · rw [if_pos c, if_neg (by omega), Int.add_zero])
    no.toNat fu 0 0 (by omega) (by omega) ⟨by omega, by rw [fdA_0]⟩
  have e' : f_L_same_L827 fu lq ln t s r K fu 0 0 = K p := e
  rw [e', i2]
theorem s_L789 {s : Int} {K : Int → Option (Int × (Int → Int) × Int × (Int → Int) × (Int → Int))} (hL : LST lq ln se tr fi la sh ac no) (h6 : E6 lh (HO se tr fi la sh ac no)) (t0 : 0 ≤ t) (t1 : t < 12) (s0 : 0 ≤ s) (s1 : s < 64) (hs : jand (jshr ((EHs (HO se tr fi la sh ac no) (se 2)) s) t) 1 = 1) (hf : 500 ≤ fu) :
    ∃ r, f_L_same_L789 fu lq t lh K fu s = K r ∧ (s ≤ r ∧ r < 64 ∧ (∀ q, s ≤ q → q ≤ r → jand (jshr ((EHs (HO se tr fi la sh ac no) (se 2)) q) t) 1 = 1) ∧ ¬ jand (jshr ((EHs (HO se tr fi la sh ac no) (se 2)) (r + 1)) t) 1 = 1) := by
  have key : ∀ (n fuel : Nat) (i : Int), s ≤ i → i + n = 63 → n < fuel → (∀ q, s ≤ q → q ≤ i → jand (jshr ((EHs (HO se tr fi la sh ac no) (se 2)) q) t) 1 = 1) → ∃ r, f_L_same_L789 fu lq t lh K fuel i = K r ∧ (s ≤ r ∧ r < 64 ∧ (∀ q, s ≤ q → q ≤ r → jand (jshr ((EHs (HO se tr fi la sh ac no) (se 2)) q) t) 1 = 1) ∧ ¬ jand (jshr ((EHs (HO se tr fi la sh ac no) (se 2)) (r + 1)) t) 1 = 1) := by
    intro n
    induction n with
    | zero =>
      intro fuel i h1 h2 h3 h4
      obtain ⟨q, rfl⟩ : ∃ q, fuel = q + 1 := ⟨fuel - 1, by omega⟩
      refine ⟨i, ?_, h1, by omega, h4, fun h => ?_⟩
      · show f_L_same_L789_b fu lq t lh _ _ i = _
        unfold f_L_same_L789_b
        rw [jck_of (by omega) (by omega) (by omega) (by omega), if_pos (by omega)]
      · rw [E_hi hL (i + 1) (by omega), bit_0 t0 t1] at h
        omega
    | succ n ih =>
      intro fuel i h1 h2 h3 h4
      obtain ⟨q, rfl⟩ : ∃ q, fuel = q + 1 := ⟨fuel - 1, by omega⟩
      have ex : f_L_same_L789 fu lq t lh K (q + 1) i = f_L_same_L789_b fu lq t lh K (f_L_same_L789 fu lq t lh K q) i := rfl
      rw [ex]
      unfold f_L_same_L789_b
      rw [jck_of (by omega) (by omega) (by omega) (by omega), if_neg (by omega), L_heardE hL h6 (by omega) (by omega) (by omega), jb_s, jck_rg (rg_jand _ _) rg_1]
      by_cases c : jand (jshr ((EHs (HO se tr fi la sh ac no) (se 2)) (i + 1)) t) 1 = 1
      · rw [if_neg (fun h => h c)]
        exact ih q (i + 1) (by omega) (by omega) (by omega) (fun x x0 x1 => by
          by_cases d : x = i + 1
          · rw [d]; exact c
          · exact h4 x x0 (by omega))
      · rw [if_pos c]
        exact ⟨i, rfl, h1, by omega, h4, c⟩
  exact key (63 - s).toNat fu s (by omega) (by omega) (by omega) (fun q q0 q1 => by rw [show q = s by omega]; exact hs)
theorem s_part3 {K : (Int → Int) → Int → (Int → Int) → (Int → Int) → Int → Int → Option (Int × (Int → Int) × Int × (Int → Int) × (Int → Int))} (hL : LST lq ln se tr fi la sh ac no) (h6 : E6 lh (HO se tr fi la sh ac no)) (t0 : 0 ≤ t) (t1 : t < 12) (hf : 500 ≤ fu) :
    ∃ eh' we' hf', f_L_same_L661 fu se tr fi la sh ac no lq ln t K fu p_eh p_we p_hf lh 0 0 0 = K eh' we' hf' lh (stN (EHs (HO se tr fi la sh ac no) (se 2)) t 64) (fdA (sSw (EHs (HO se tr fi la sh ac no) (se 2)) tr fi t) 0 0 no) := by
  have hN := hL.2.1.1
  have n0 := hN.1
  have n12 := hL.2.2.2.1
  obtain ⟨p, e, i1, i2, i3⟩ := loop_upI (L := fun q (v : (Int → Int) × Int × (Int → Int) × Int × Int) i => f_L_same_L661 fu se tr fi la sh ac no lq ln t K q v.1 v.2.1 v.2.2.1 lh v.2.2.2.1 v.2.2.2.2 i) (fun v => K v.1 v.2.1 v.2.2.1 lh v.2.2.2.1 v.2.2.2.2)
    (fun i v => 0 ≤ i ∧ v.2.2.2.1 = stN (EHs (HO se tr fi la sh ac no) (se 2)) t i ∧ v.2.2.2.2 = sm (fun s => sm (fun n => swC (EHs (HO se tr fi la sh ac no) (se 2)) tr fi t n s) no) i) 64
    (fun q v hI => by
      show f_L_same_L661_b fu se tr fi la sh ac no lq ln t _ _ v.1 v.2.1 v.2.2.1 lh v.2.2.2.1 v.2.2.2.2 64 = _
      unfold f_L_same_L661_b
      rw [jck_of (by omega) (by omega) (by omega) (by omega), if_pos (by omega)])
    (fun q v i hi hI => by
      obtain ⟨i1, i2, i3⟩ := hI
      have hk := stN_in (EHs (HO se tr fi la sh ac no) (se 2)) t i1
      have hsn := stN_s (EHs (HO se tr fi la sh ac no) (se 2)) t i1
      have go : ∀ is : Int, (is = if jand (jshr ((EHs (HO se tr fi la sh ac no) (se 2)) i) t) 1 = 1 then 1 else 0) → f_L_same_L661 fu se tr fi la sh ac no lq ln t K (q + 1) v.1 v.2.1 v.2.2.1 lh v.2.2.2.1 v.2.2.2.2 i = f_L_same_X772 fu se tr fi la sh ac no lq ln t v.1 v.2.1 v.2.2.1 lh v.2.2.2.1 i is (if 0 < i ∧ jand (jshr ((EHs (HO se tr fi la sh ac no) (se 2)) (i - 1)) t) 1 = 1 then 1 else 0) (f_L_same_L661 fu se tr fi la sh ac no lq ln t K q) (v.2.2.2.2 + sm (fun n => swC (EHs (HO se tr fi la sh ac no) (se 2)) tr fi t n i) no) := by
        intro is his
        have g690 : f_L_same_J690 fu se tr fi la sh ac no lq ln t v.1 v.2.1 v.2.2.1 lh v.2.2.2.1 v.2.2.2.2 i (f_L_same_L661 fu se tr fi la sh ac no lq ln t K q) is = f_L_same_X772 fu se tr fi la sh ac no lq ln t v.1 v.2.1 v.2.2.1 lh v.2.2.2.1 i is (if 0 < i ∧ jand (jshr ((EHs (HO se tr fi la sh ac no) (se 2)) (i - 1)) t) 1 = 1 then 1 else 0) (f_L_same_L661 fu se tr fi la sh ac no lq ln t K q) (v.2.2.2.2 + sm (fun n => swC (EHs (HO se tr fi la sh ac no) (se 2)) tr fi t n i) no) := by
          unfold f_L_same_J690 f_L_same_J720 f_L_same_J721
          rw [jck_of (by omega) (by omega) (by omega) (by omega)]
          by_cases c : i ≤ 0
          · rw [if_pos c, s_L726 (s := i) (b := 0) hL t0 t1 i1 hi (by rw [if_neg (by omega)]) (by omega), if_neg (by omega)]
          · rw [if_neg c, L_heardE hL h6 (by omega) (by omega) (by omega), jb_s, jck_rg (rg_jand _ _) rg_1]
            by_cases d : jand (jshr ((EHs (HO se tr fi la sh ac no) (se 2)) (i - 1)) t) 1 = 1
            · rw [if_neg (fun h => h d), s_L726 (s := i) (b := 1) hL t0 t1 i1 hi (by rw [if_pos ⟨by omega, d⟩]) (by omega), if_pos ⟨by omega, d⟩]
            · rw [if_pos d, s_L726 (s := i) (b := 0) hL t0 t1 i1 hi (by rw [if_neg (fun h => d h.2)]) (by omega), if_neg (fun h => d h.2)]
        rw [← g690]
        show f_L_same_L661_b fu se tr fi la sh ac no lq ln t _ _ v.1 v.2.1 v.2.2.1 lh v.2.2.2.1 v.2.2.2.2 i = _
        unfold f_L_same_L661_b
        rw [jck_of (by omega) (by omega) (by omega) (by omega), if_neg (by omega), L_heardE hL h6 i1 hi (by omega), jb_s, jck_rg (rg_jand _ _) rg_1]
        by_cases c : jand (jshr ((EHs (HO se tr fi la sh ac no) (se 2)) i) t) 1 = 1
        · rw [if_neg (fun h => h c), his, if_pos c]
        · rw [if_pos c, his, if_neg c]
      have hsum : v.2.2.2.2 + sm (fun n => swC (EHs (HO se tr fi la sh ac no) (se 2)) tr fi t n i) no = sm (fun s => sm (fun n => swC (EHs (HO se tr fi la sh ac no) (se 2)) tr fi t n s) no) (i + 1) := by rw [sm_s _ i1, i3]
      by_cases c : jand (jshr ((EHs (HO se tr fi la sh ac no) (se 2)) i) t) 1 = 1
      · by_cases d : 0 < i ∧ jand (jshr ((EHs (HO se tr fi la sh ac no) (se 2)) (i - 1)) t) 1 = 1
        · refine ⟨(v.1, v.2.1, v.2.2.1, v.2.2.2.1, v.2.2.2.2 + sm (fun n => swC (EHs (HO se tr fi la sh ac no) (se 2)) tr fi t n i) no), ?_, by omega, ?_, hsum⟩
          · rw [go 1 (by rw [if_pos c])]
            unfold f_L_same_X772
            rw [jck_of (by omega) (by omega) (by omega) (by omega), if_neg (by omega), if_pos d, jck_of (by omega) (by omega) (by omega) (by omega), if_neg (by omega)]
          · show v.2.2.2.1 = _
            rw [hsn, if_neg (fun h => h.2.elim (by omega) (fun h => h d.2))]
            exact i2
        · have hst : jand (jshr ((EHs (HO se tr fi la sh ac no) (se 2)) i) t) 1 = 1 ∧ (i = 0 ∨ ¬ jand (jshr ((EHs (HO se tr fi la sh ac no) (se 2)) (i - 1)) t) 1 = 1) := ⟨c, by
            by_cases g : i = 0
            · exact Or.inl g
            · exact Or.inr (fun h => d ⟨by omega, h⟩)⟩
          obtain ⟨r, er, r1, r2, r3, r4⟩ := s_L789 (fu := fu) (lq := lq) (lh := lh) (t := t) (s := i) (K := f_L_same_X821 fu se tr fi la sh ac no lq ln t v.1 v.2.1 v.2.2.1 lh v.2.2.2.1 i (v.2.2.2.2 + sm (fun n => swC (EHs (HO se tr fi la sh ac no) (se 2)) tr fi t n i) no) (f_L_same_L661 fu se tr fi la sh ac no lq ln t K q)) hL h6 t0 t1 i1 hi c hf
          have tp := tou_pos (tr := tr) (fi := fi) (la := la) (t := t) (a := i) (b := r) n0
          obtain ⟨e1, x1, y1, c1⟩ := ca_sound (fu := fu) (p_eh := v.1) (p_we := v.2.1) (p_hf := v.2.2.1) (x1 := t) (x2 := v.2.2.2.1) (x3 := 0) (r := i) (s := r) hN hL.2.2.1 hL.2.1.2.1 t0 t1 (by omega) (by omega) i1 (by omega) hst i2.symm ⟨r1, by omega, r3, Or.inr r4⟩ (Or.inl ⟨rfl, rfl⟩) hf
          obtain ⟨e2, x2, y2, c2⟩ := ca_sound (fu := fu) (p_eh := e1) (p_we := x1) (p_hf := y1) (x1 := t) (x2 := v.2.2.2.1) (x3 := 1) (r := i) (s := r) hN hL.2.2.1 hL.2.1.2.1 t0 t1 (by omega) (by omega) i1 (by omega) hst i2.symm ⟨r1, by omega, r3, Or.inr r4⟩ (Or.inr (Or.inl ⟨rfl, rfl⟩)) hf
          obtain ⟨e3, x3, y3, c3⟩ := ca_sound (fu := fu) (p_eh := e2) (p_we := x2) (p_hf := y2) (x1 := t) (x2 := v.2.2.2.1) (x3 := 2) (r := i) (s := r) hN hL.2.2.1 hL.2.1.2.1 t0 t1 (by omega) (by omega) i1 (by omega) hst i2.symm ⟨r1, by omega, r3, Or.inr r4⟩ (Or.inr (Or.inr ⟨rfl, rfl⟩)) hf
          refine ⟨(e3, x3, y3, v.2.2.2.1 + 1, v.2.2.2.2 + sm (fun n => swC (EHs (HO se tr fi la sh ac no) (se 2)) tr fi t n i) no), ?_, by omega, ?_, hsum⟩
          · rw [go 1 (by rw [if_pos c])]
            unfold f_L_same_X772
            rw [jck_of (by omega) (by omega) (by omega) (by omega), if_neg (by omega), if_neg d, jck_of (by omega) (by omega) (by omega) (by omega), if_pos rfl, er]
            unfold f_L_same_X821
            rw [s_L827 hL t0 t1 i1 hi (by omega) r2 (by omega)]
            unfold f_L_same_X892
            rw [c1, jb4_s, jck_of (by omega) (by omega) (by omega) (by omega), nn, c2, jb4_s, jck_of (by omega) (by omega) (by omega) (by omega), nn, c3, jb4_s, jck_of (by omega) (by omega) (by omega) (by omega), if_pos rfl]
          · show v.2.2.2.1 + 1 = _
            rw [hsn, if_pos hst, i2]
      · refine ⟨(v.1, v.2.1, v.2.2.1, v.2.2.2.1, v.2.2.2.2 + sm (fun n => swC (EHs (HO se tr fi la sh ac no) (se 2)) tr fi t n i) no), ?_, by omega, ?_, hsum⟩
        · rw [go 0 (by rw [if_neg c])]
          unfold f_L_same_X772
          rw [jck_of (by omega) (by omega) (by omega) (by omega), if_pos rfl]
        · show v.2.2.2.1 = _
          rw [hsn, if_neg (fun h => c h.1)]
          exact i2)
    64 fu (p_eh, p_we, p_hf, 0, 0) 0 (by omega) (by omega) ⟨by omega, by unfold stN; rw [fdA_0], (sm_0 _).symm⟩
  have e' : f_L_same_L661 fu se tr fi la sh ac no lq ln t K fu p_eh p_we p_hf lh 0 0 0 = K p.1 p.2.1 p.2.2.1 lh p.2.2.2.1 p.2.2.2.2 := e
  refine ⟨p.1, p.2.1, p.2.2.1, ?_⟩
  have hsw : sm (fun s => sm (fun n => swC (EHs (HO se tr fi la sh ac no) (se 2)) tr fi t n s) no) 64 = fdA (sSw (EHs (HO se tr fi la sh ac no) (se 2)) tr fi t) 0 0 no := by
    have h1 := sm_swap (fun n s => swC (EHs (HO se tr fi la sh ac no) (se 2)) tr fi t n s) no.toNat 64
    rw [Int.toNat_of_nonneg n0] at h1
    have h2 : fdA (sSw (EHs (HO se tr fi la sh ac no) (se 2)) tr fi t) 0 0 no = sm (fun n => if tr n = t ∧ 0 < fi n ∧ jand (jshr ((EHs (HO se tr fi la sh ac no) (se 2)) (fi n - 1)) t) 1 = 1 then 1 else 0) no := cnt_sm
    rw [h2]
    refine Eq.trans h1 (sm_congr (fun n m0 m1 => ?_))
    obtain ⟨a1, a2, a3, a4, a5, -, -⟩ := hN.2.2 n m0 m1
    have h60 := hL.2.2.2.2 n m0 m1
    refine Eq.trans (sm_congr (g := fun s => if s = fi n then (if tr n = t ∧ 0 < fi n ∧ jand (jshr ((EHs (HO se tr fi la sh ac no) (se 2)) (fi n - 1)) t) 1 = 1 then 1 else 0) else 0) (fun s _ _ => ?_)) (sm_one a3 64 (by omega))
    show (if (tr n = t ∧ fi n = s) ∧ 0 < s ∧ jand (jshr ((EHs (HO se tr fi la sh ac no) (se 2)) (s - 1)) t) 1 = 1 then (1 : Int) else 0) = if s = fi n then (if tr n = t ∧ 0 < fi n ∧ jand (jshr ((EHs (HO se tr fi la sh ac no) (se 2)) (fi n - 1)) t) 1 = 1 then 1 else 0) else 0
    by_cases c : s = fi n
    · rw [if_pos c, c]
      by_cases d : tr n = t ∧ 0 < fi n ∧ jand (jshr ((EHs (HO se tr fi la sh ac no) (se 2)) (fi n - 1)) t) 1 = 1
      · rw [if_pos d, if_pos ⟨⟨d.1, rfl⟩, d.2⟩]
      · rw [if_neg d, if_neg (fun h => d ⟨h.1.1, h.2⟩)]
    · rw [if_neg c, if_neg (fun h => c h.1.2.symm)]
  rw [e', i2, i3, hsw]
theorem s_end {v8 v16 : Int} (hL : LST lq ln se tr fi la sh ac no) (t0 : 0 ≤ t) (t1 : t < 12) (hF : FW (HO se tr fi la sh ac no) (se 3) 64 v8) (hW : LW la no v16) (hf : 500 ≤ fu) :
    ∃ eh' we' hf', f_L_same_X945 fu se tr fi la sh ac no d_le g_si lq (wkN (HO se tr fi la sh ac no) (se 3)) (holN (HO se tr fi la sh ac no)) v8 (sndN (EHs (HO se tr fi la sh ac no) (se 2))) (gapN (EHs (HO se tr fi la sh ac no) (se 2)) tr fi la no) v16 t p_eh p_we p_hf lh (stN (EHs (HO se tr fi la sh ac no) (se 2)) t 64) (fdA (sSw (EHs (HO se tr fi la sh ac no) (se 2)) tr fi t) 0 0 no) = some (1, eh', we', hf', lh) := by
  have hN := hL.2.1.1
  have hE := hL.2.2.1
  have hA := hL.2.1.2.1
  have n0 := hN.1
  have n12 := hL.2.2.2.1
  obtain ⟨⟨q0, q1, q2, q3⟩, q4, -⟩ := hL.1
  obtain ⟨s1, s2, s3, s4, s5, s6, s7, s8⟩ := hE
  have b1 := wkN_in (HO se tr fi la sh ac no) (se 3)
  have b2 := hol_in hL
  have b3 := snd_in (EHs (HO se tr fi la sh ac no) (se 2))
  have b4 := fdA_cnt (P := fun k => whO (EHs (HO se tr fi la sh ac no) (se 2)) tr fi la k = 0) n0
  have b4' : 0 ≤ gapN (EHs (HO se tr fi la sh ac no) (se 2)) tr fi la no ∧ gapN (EHs (HO se tr fi la sh ac no) (se 2)) tr fi la no ≤ no - 0 := ⟨b4.1, b4.2.1⟩
  have b5 := fdA_cnt (P := fun k => tr k = t ∧ 0 < fi k ∧ jand (jshr ((EHs (HO se tr fi la sh ac no) (se 2)) (fi k - 1)) t) 1 = 1) n0
  have b5' : 0 ≤ fdA (sSw (EHs (HO se tr fi la sh ac no) (se 2)) tr fi t) 0 0 no ∧ fdA (sSw (EHs (HO se tr fi la sh ac no) (se 2)) tr fi t) 0 0 no ≤ no - 0 := ⟨b5.1, b5.2.1⟩
  have b6 := stN_in (EHs (HO se tr fi la sh ac no) (se 2)) t (i := 64) (by omega)
  have b7 : -6 ≤ v8 ∧ v8 < 64 := by
    rcases hF with ⟨h, -⟩ | ⟨h, h', -⟩ <;> omega
  have b8 : -6 ≤ v16 ∧ v16 < 60 := by
    rcases hW.2 with ⟨h, h'⟩ | ⟨k, k0, k1, k2⟩
    · omega
    · have := hL.2.2.2.2 k k0 (by omega)
      have := hN.2.2 k k0 (by omega)
      omega
  have hno : ∀ r, 0 ≤ r → r < 100 → (jand (jshr ((EHs (HO se tr fi la sh ac no) (se 2)) r) t) 1 = 1 ∧ (r = 0 ∨ ¬ jand (jshr ((EHs (HO se tr fi la sh ac no) (se 2)) (r - 1)) t) 1 = 1)) → stN (EHs (HO se tr fi la sh ac no) (se 2)) t r ≠ stN (EHs (HO se tr fi la sh ac no) (se 2)) t 64 := by
    intro r r0 r1 hr h
    by_cases c : r < 64
    · have e1 := stN_s (EHs (HO se tr fi la sh ac no) (se 2)) t r0
      rw [if_pos hr] at e1
      have e2 := stN_mono (EHs (HO se tr fi la sh ac no) (se 2)) t (64 - (r + 1)).toNat (r + 1) (by omega)
      rw [show r + 1 + ((64 - (r + 1)).toNat : Int) = 64 by omega] at e2
      omega
    · have e1 := hr.1
      rw [E_hi hL r (by omega), bit_0 t0 t1] at e1
      omega
  obtain ⟨e0, x0, y0, c0⟩ := ca_sound0 (fu := fu) (p_eh := p_eh) (p_we := p_we) (p_hf := p_hf) (x1 := t) (x2 := stN (EHs (HO se tr fi la sh ac no) (se 2)) t 64) hN ⟨s1, s2, s3, s4, s5, s6, s7, s8⟩ hA t0 t1 (by omega) (by omega) hno hf
  obtain ⟨e1, x1, y1, c1⟩ := ca_swallowed (fu := fu) (p_eh := e0) (p_we := x0) (p_hf := y0) (x1 := t) hN ⟨s1, s2, s3, s4, s5, s6, s7, s8⟩ hA t0 t1 hf
  obtain ⟨e2, x2, y2, c2⟩ := ca_count (fu := fu) (p_eh := e1) (p_we := x1) (p_hf := y1) (d_le := d_le) (g_si := g_si) (x1 := 0) hN ⟨s1, s2, s3, s4, s5, s6, s7, s8⟩ hA (Or.inl ⟨rfl, rfl⟩) hf
  obtain ⟨e3, x3, y3, c3⟩ := ca_count (fu := fu) (p_eh := e2) (p_we := x2) (p_hf := y2) (d_le := d_le) (g_si := g_si) (x1 := 1) hN ⟨s1, s2, s3, s4, s5, s6, s7, s8⟩ hA (Or.inr (Or.inl ⟨rfl, rfl⟩)) hf
  obtain ⟨e4, x4, y4, c4⟩ := ca_count (fu := fu) (p_eh := e3) (p_we := x3) (p_hf := y3) (d_le := d_le) (g_si := g_si) (x1 := 2) hN ⟨s1, s2, s3, s4, s5, s6, s7, s8⟩ hA (Or.inr (Or.inr (Or.inl ⟨rfl, rfl⟩))) hf
  obtain ⟨e5, x5, y5, c5⟩ := ca_count (fu := fu) (p_eh := e4) (p_we := x4) (p_hf := y4) (d_le := d_le) (g_si := g_si) (x1 := 3) (V := v8) hN ⟨s1, s2, s3, s4, s5, s6, s7, s8⟩ hA (Or.inr (Or.inr (Or.inr (Or.inl ⟨rfl, by
    rcases hF with ⟨h, h'⟩ | ⟨h, h', h2, h3⟩
    · refine Or.inl ⟨h, fun s s0' s1' => ?_⟩
      by_cases c : s < 64
      · exact h' s s0' c
      · rw [H_hi hL s (by omega), sbs_0]; omega
    · exact Or.inr ⟨h, by omega, h2, h3⟩⟩)))) hf
  obtain ⟨e6, x6, y6, c6⟩ := ca_count (fu := fu) (p_eh := e5) (p_we := x5) (p_hf := y5) (d_le := d_le) (g_si := g_si) (x1 := 4) hN ⟨s1, s2, s3, s4, s5, s6, s7, s8⟩ hA (Or.inr (Or.inr (Or.inr (Or.inr (Or.inl ⟨rfl, rfl⟩))))) hf
  obtain ⟨e7, x7, y7, c7⟩ := ca_count (fu := fu) (p_eh := e6) (p_we := x6) (p_hf := y6) (d_le := d_le) (g_si := g_si) (x1 := 5) hN ⟨s1, s2, s3, s4, s5, s6, s7, s8⟩ hA (Or.inr (Or.inr (Or.inr (Or.inr (Or.inr (Or.inl ⟨rfl, rfl⟩)))))) hf
  obtain ⟨e8, x8, y8, c8⟩ := ca_count (fu := fu) (p_eh := e7) (p_we := x7) (p_hf := y7) (d_le := d_le) (g_si := g_si) (x1 := 6) (V := v16) hN ⟨s1, s2, s3, s4, s5, s6, s7, s8⟩ hA (Or.inr (Or.inr (Or.inr (Or.inr (Or.inr (Or.inr (Or.inl ⟨rfl, hW.1, hW.2⟩))))))) hf
  obtain ⟨e9, x9, y9, c9⟩ := ca_count (fu := fu) (p_eh := e8) (p_we := x8) (p_hf := y8) (d_le := d_le) (g_si := g_si) (x1 := 7) hN ⟨s1, s2, s3, s4, s5, s6, s7, s8⟩ hA (Or.inr (Or.inr (Or.inr (Or.inr (Or.inr (Or.inr (Or.inr (Or.inl ⟨rfl, rfl⟩)))))))) hf
  obtain ⟨ea, xa, ya, ca⟩ := ca_count (fu := fu) (p_eh := e9) (p_we := x9) (p_hf := y9) (d_le := d_le) (g_si := g_si) (x1 := 8) hN ⟨s1, s2, s3, s4, s5, s6, s7, s8⟩ hA (Or.inr (Or.inr (Or.inr (Or.inr (Or.inr (Or.inr (Or.inr (Or.inr (Or.inl ⟨rfl, rfl⟩))))))))) hf
  obtain ⟨eb, xb, yb, cb⟩ := ca_count (fu := fu) (p_eh := ea) (p_we := xa) (p_hf := ya) (d_le := d_le) (g_si := g_si) (x1 := 9) hN ⟨s1, s2, s3, s4, s5, s6, s7, s8⟩ hA (Or.inr (Or.inr (Or.inr (Or.inr (Or.inr (Or.inr (Or.inr (Or.inr (Or.inr (Or.inl ⟨rfl, rfl⟩)))))))))) hf
  obtain ⟨ec, xc, yc, cc⟩ := ca_count (fu := fu) (p_eh := eb) (p_we := xb) (p_hf := yb) (d_le := d_le) (g_si := g_si) (x1 := 10) hN ⟨s1, s2, s3, s4, s5, s6, s7, s8⟩ hA (Or.inr (Or.inr (Or.inr (Or.inr (Or.inr (Or.inr (Or.inr (Or.inr (Or.inr (Or.inr ⟨rfl, rfl⟩)))))))))) hf
  refine ⟨ec, xc, yc, ?_⟩
  unfold f_L_same_X945
  rw [c0, jb4_s, jck_of (by omega) (by omega) (by omega) (by omega), nn, c1, jb4_s, jck_of (by omega) (by omega) (by omega) (by omega), nn, c2, jb4_s, jix_of (by omega) (by omega), q4, jck_of (by omega) (by omega) (by omega) (by omega), nn, c3, jb4_s, jck_of (by omega) (by omega) (by omega) (by omega), nn, c4, jb4_s, jck_of (by omega) (by omega) (by omega) (by omega), nn, c5, jb4_s, jck_of (by omega) (by omega) (by omega) (by omega), nn, c6, jb4_s, jck_of (by omega) (by omega) (by omega) (by omega), nn, c7, jb4_s, jck_of (by omega) (by omega) (by omega) (by omega), nn, c8, jb4_s, jck_of (by omega) (by omega) (by omega) (by omega), nn, c9, jb4_s, jix_of (by omega) (by omega), q0, jck_of (by omega) (by omega) (by omega) (by omega), nn, ca, jb4_s, jix_of (by omega) (by omega), q1, jck_of (by omega) (by omega) (by omega) (by omega), nn, cb, jb4_s, jix_of (by omega) (by omega), q2, jck_of (by omega) (by omega) (by omega) (by omega), nn, cc, jb4_s, jix_of (by omega) (by omega), q3, jck_of (by omega) (by omega) (by omega) (by omega), nn, jbo_of (by omega)]
theorem L_same {x1 : Int} (hL : LST lq ln se tr fi la sh ac no) (hf : 500 ≤ fu) :
    ∃ eh' we' hf' lh', f_L_same fu se tr fi la sh ac no p_eh p_we p_hf d_le g_si lq ln lh x1 = some (1, eh', we', hf', lh') := by
  obtain ⟨lh', ew, h6⟩ := L_weak (fu := fu) (lh := lh) hL.1 hL.2.1.1 hL.2.2.1 hL.2.1.2.1 hL.2.2.2 (by omega)
  obtain ⟨t, et, t0, t1⟩ := L_low (fu := fu) (x := x1) (n := 12) (by omega) (by omega)
  obtain ⟨e1, w1, y1, v8, c1, hF⟩ := s_part1 (fu := fu) (p_eh := p_eh) (p_we := p_we) (p_hf := p_hf) (lh := lh') (K := f_L_same_X312 fu se tr fi la sh ac no d_le g_si lq ln x1 (wkN (HO se tr fi la sh ac no) (se 3))) hL h6 hf
  obtain ⟨e2, w2, y2, v16, c2, hW⟩ := s_part2 (fu := fu) (p_eh := e1) (p_we := w1) (p_hf := y1) (lh := lh') (K := f_L_same_X644 fu se tr fi la sh ac no d_le g_si lq ln x1 (wkN (HO se tr fi la sh ac no) (se 3)) (holN (HO se tr fi la sh ac no)) v8 (sndN (EHs (HO se tr fi la sh ac no) (se 2)))) hL h6 hf
  obtain ⟨e3, w3, y3, c3⟩ := s_part3 (fu := fu) (p_eh := e2) (p_we := w2) (p_hf := y2) (lh := lh') (t := t) (K := f_L_same_X945 fu se tr fi la sh ac no d_le g_si lq (wkN (HO se tr fi la sh ac no) (se 3)) (holN (HO se tr fi la sh ac no)) v8 (sndN (EHs (HO se tr fi la sh ac no) (se 2))) (gapN (EHs (HO se tr fi la sh ac no) (se 2)) tr fi la no) v16 t) hL h6 t0 t1 hf
  obtain ⟨e4, w4, y4, c4⟩ := s_end (fu := fu) (p_eh := e3) (p_we := w3) (p_hf := y3) (lh := lh') (d_le := d_le) (g_si := g_si) (t := t) (v8 := v8) (v16 := v16) hL t0 t1 hF hW hf
  refine ⟨e4, w4, y4, lh', ?_⟩
  unfold f_L_same
  rw [ew, jb2_s, c1]
  unfold f_L_same_X312
  rw [c2]
  unfold f_L_same_X644
  rw [et, jb_s, c3, c4]
end Q75
