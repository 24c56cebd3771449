/-! the law's own roll: its small methods -/
def lR (ln : Int → Int) (q : Int) : Int × Int × Int × Int := (ln (5 * q), ln (5 * q + 1), ln (5 * q + 2), ln (5 * q + 3))
theorem lr4 {ln tr fi la sh ac : Int → Int} {k : Int} (h : lR ln k = cR tr fi la sh ac k) : ln (5 * k) = 100 * fi k + tr k ∧ ln (5 * k + 1) = la k ∧ ln (5 * k + 2) = sh k ∧ ln (5 * k + 3) = ac k := by
  unfold lR cR at h
  simp only [Prod.mk.injEq] at h
  exact h
theorem lr4_of {ln tr fi la sh ac : Int → Int} {k : Int} (h0 : ln (5 * k) = 100 * fi k + tr k) (h1 : ln (5 * k + 1) = la k) (h2 : ln (5 * k + 2) = sh k) (h3 : ln (5 * k + 3) = ac k) : lR ln k = cR tr fi la sh ac k := by
  unfold lR cR
  rw [h0, h1, h2, h3]
def LRm (lq ln se tr fi la sh ac : Int → Int) (no : Int) : Prop := (lq 0 = se 0 ∧ lq 1 = se 1 ∧ lq 2 = se 2 ∧ lq 3 = se 3) ∧ lq 4 = no ∧ ∀ k, 0 ≤ k → k < no → lR ln k = cR tr fi la sh ac k
def SM (la : Int → Int) (no : Int) : Prop := no ≤ 12 ∧ ∀ k, 0 ≤ k → k < no → la k < 60
def E6 (f g : Int → Int) : Prop := ∀ s, 0 ≤ s → s < 64 → f s = g s
theorem jand_low (x : Int) : 0 ≤ jand x 2147483647 := by
  unfold jand
  show 0 ≤ (jI x &&& jI 2147483647).toBitVec.toInt
  rw [Int32.toBitVec_and, BitVec.toInt_eq_msb_cond, BitVec.msb_and, show (jI 2147483647).toBitVec.msb = false from by decide +kernel, Bool.and_false, if_neg (by decide)]
  exact Int.natCast_nonneg _
theorem fdA_tail {σ : Type} {f : Int → σ → σ} {s0 : σ} {a b : Int} (h : a ≤ b) : ∀ (n : Nat), (∀ j s, b ≤ j → j < b + n → f j s = s) → fdA f s0 a (b + n) = fdA f s0 a b
  | 0, _ => by rw [show b + ((0 : Nat) : Int) = b by omega]
  | n + 1, hid => by
    rw [show b + ((n + 1 : Nat) : Int) = b + n + 1 by omega, fdA_s _ _ (by omega), fdA_tail h n (fun j s j0 j1 => hid j s j0 (by omega))]
    exact hid _ _ (by omega) (by omega)
theorem L_low {fu : Nat} {x n : Int} (h : 0 < n) (h2 : n < 2147483648) : ∃ v, f_L_low fu x n = some v ∧ 0 ≤ v ∧ v < n := by
  unfold f_L_low
  have h0 := jand_low x
  have h1 := (rg_jand x 2147483647).2
  rw [jre_of h0 h1 h h2]
  exact ⟨_, rfl, Int.emod_nonneg _ (by omega), Int.emod_lt_of_pos _ h⟩
theorem side_mono {fu : Nat} : ∀ (n m : Nat) (v2 v3 r : Int), n ≤ m → f_L_side_L4 0 (f_L_side_X20 0) n v2 v3 = some r → f_L_side_L4 fu (f_L_side_X20 fu) m v2 v3 = some r := by
  intro n
  induction n with
  | zero => intro m v2 v3 r _ h; have h : (none : Option Int) = some r := h; cases h
  | succ n ih =>
    intro m v2 v3 r hm h
    obtain ⟨m', rfl⟩ : ∃ q, m = q + 1 := ⟨m - 1, by omega⟩
    replace h : f_L_side_L4_b 0 (f_L_side_X20 0) (f_L_side_L4 0 (f_L_side_X20 0) n) v2 v3 = some r := h
    show f_L_side_L4_b fu (f_L_side_X20 fu) (f_L_side_L4 fu (f_L_side_X20 fu) m') v2 v3 = some r
    unfold f_L_side_L4_b at h ⊢
    obtain ⟨a, b, h⟩ := jck_i h
    rw [jck_rg a b]
    by_cases c : v3 = 0
    · rw [if_pos c] at h ⊢; exact h
    · rw [if_neg c] at h ⊢; exact ih m' _ _ r (by omega) h
set_option maxRecDepth 20000 in
theorem side_all : ∀ a, a < 64 → ∀ b, b < 64 → f_L_side_L4 0 (f_L_side_X20 0) 20 0 (((64 * a + b : Nat) : Int)) = some (sbs ((64 * a + b : Nat) : Int)) := by decide +kernel
theorem L_side {fu : Nat} {v : Int} (h : ST v) (hf : 100 ≤ fu) : f_L_side fu v = some (sbs v) := by
  obtain ⟨m, rfl⟩ : ∃ m : Nat, v = m := ⟨v.toNat, (Int.toNat_of_nonneg h.1).symm⟩
  have h1 := h.2
  have := side_all (m / 64) (by omega) (m % 64) (by omega)
  rw [show 64 * (m / 64) + m % 64 = m by omega] at this
  unfold f_L_side
  exact side_mono 20 fu _ _ _ (by omega) this
section Q70
variable {fu : Nat} {lq ln lh se tr fi la sh ac H : Int → Int} {no : Int}
theorem l_hole33 {P v1 v2 : Int} {K : Int → Int → Int → Option Int} (hP : lq 0 + lq 1 = P) (p0 : 1 ≤ P) (p1 : P < 1000) : ∀ (n fuel : Nat) (v : Int), 0 ≤ v → v ≤ n → n < fuel → v < 1000 → f_L_hole_L33 fu lq K fuel v1 v2 v = K v1 v2 (v % P) := by
  intro n
  induction n with
  | zero =>
    intro fuel v h0 h1 h2 h3
    obtain ⟨q, rfl⟩ : ∃ q, fuel = q + 1 := ⟨fuel - 1, by omega⟩
    show f_L_hole_L33_b fu lq K _ v1 v2 v = _
    unfold f_L_hole_L33_b
    rw [jix_of (by omega) (by omega), jix_of (by omega) (by omega), hP, jck_of (by omega) (by omega) (by omega) (by omega), if_pos (by omega), Int.emod_eq_of_lt h0 (by omega)]
  | succ n ih =>
    intro fuel v h0 h1 h2 h3
    obtain ⟨q, rfl⟩ : ∃ q, fuel = q + 1 := ⟨fuel - 1, by omega⟩
    show f_L_hole_L33_b fu lq K _ v1 v2 v = _
    unfold f_L_hole_L33_b
    rw [jix_of (by omega) (by omega), jix_of (by omega) (by omega), hP, jck_of (by omega) (by omega) (by omega) (by omega)]
    by_cases c : v < P
    · rw [if_pos c, Int.emod_eq_of_lt h0 c]
    · rw [if_neg c, jix_of (by omega) (by omega), jix_of (by omega) (by omega), ih q (v - P) (by omega) (by omega) (by omega) (by omega), Int.sub_emod_right]
theorem L_hole {k s : Int} (hL : LRm lq ln se tr fi la sh ac no) (hN : NT tr fi la sh no) (hE : SE se) (hM : SM la no) (hk : 0 ≤ k) (hk2 : k < no) (h1 : fi k ≤ s) (h2 : s ≤ la k) (hf : 200 ≤ fu) :
    f_L_hole fu lq ln k s = some (hol se fi la sh k s) := by
  have n12 := hM.1
  have h60 := hM.2 k hk hk2
  obtain ⟨a1, a2, a3, a4, a5, a6, a7⟩ := hN.2.2 k hk hk2
  obtain ⟨b1, b2, b3, b4, -⟩ := hE
  obtain ⟨r0, r1, r2, r3⟩ := lr4 (hL.2.2 k hk hk2)
  obtain ⟨q0, q1, -, -⟩ := hL.1
  unfold f_L_hole
  rw [jix_of (by omega) (by omega), jre_of (by omega) (by omega) (by omega) (by omega), jix_of (by omega) (by omega), jix_of (by omega) (by omega), r0, r1, r2, show (100 * fi k + tr k) / 100 = fi k by omega, l_hole33 (P := se 0 + se 1) (by rw [q0, q1]) (by omega) (by omega) 150 fu _ (by omega) (by omega) (by omega) (by omega)]
  have m0 := Int.emod_nonneg (s - fi k + sh k) (show se 0 + se 1 ≠ 0 by omega)
  have m1 := Int.emod_lt_of_pos (s - fi k + sh k) (show 0 < se 0 + se 1 by omega)
  unfold f_L_hole_X60 hol
  rw [jck_of (by omega) (by omega) (by omega) (by omega)]
  by_cases c1 : s = fi k
  · rw [if_pos c1, if_pos (Or.inl c1), jbo_of (by omega)]
  · rw [if_neg c1, jck_of (by omega) (by omega) (by omega) (by omega)]
    by_cases c2 : s = la k
    · rw [if_pos c2, if_pos (Or.inr (Or.inl c2)), jbo_of (by omega)]
    · rw [if_neg c2, jix_of (by omega) (by omega), q0, jck_of (by omega) (by omega) (by omega) (by omega)]
      by_cases c3 : (s - fi k + sh k) % (se 0 + se 1) < se 0
      · rw [if_neg (by omega), if_pos (Or.inr (Or.inr c3)), jbo_of (by omega)]
      · rw [if_pos (by omega), if_neg (by omega), jbo_of (by omega)]
theorem E6_pn {f g : Int → Int} {t s : Int} (h : E6 f g) (h1 : 0 ≤ s) (h2 : s < 64) : E6 (pnS t f s) (pnS t g s) := by
  intro q h3 h4
  unfold pnS uI
  by_cases c : q = s
  · rw [if_pos c, if_pos c, h s h1 h2]
  · rw [if_neg c, if_neg c]; exact h q h3 h4
theorem E6_row {k s : Int} {f g : Int → Int} (h : E6 f g) (h1 : 0 ≤ s) (h2 : s < 64) : E6 (rowS se tr fi la sh k s f) (rowS se tr fi la sh k s g) := by
  unfold rowS
  by_cases c : hol se fi la sh k s = 0
  · rw [if_pos c, if_pos c]; exact h
  · rw [if_neg c, if_neg c]; exact E6_pn h h1 h2
theorem E6_not {k : Int} {f g : Int → Int} (hN : NT tr fi la sh no) (hM : SM la no) (hk : 0 ≤ k) (hk2 : k < no) (h : E6 f g) : E6 (notS se tr fi la sh ac k f) (notS se tr fi la sh ac k g) := by
  obtain ⟨a1, a2, a3, a4, a5, -, -⟩ := hN.2.2 k hk hk2
  have h60 := hM.2 k hk hk2
  have e : E6 (fdA (rowS se tr fi la sh k) f (fi k) (la k + 1)) (fdA (rowS se tr fi la sh k) g (fi k) (la k + 1)) :=
    fdA_rel (I := fun _ f g => E6 f g) (by omega) h (fun j s t h1 h2 h3 => E6_row h3 (by omega) (by omega))
  unfold notS
  by_cases c : ac k = 0
  · rw [if_pos c, if_pos c]; exact e
  · rw [if_neg c, if_neg c]; exact E6_pn e (by omega) (by omega)
theorem not_hi {k : Int} {g : Int → Int} (hN : NT tr fi la sh no) (hM : SM la no) (hk : 0 ≤ k) (hk2 : k < no) (h : ∀ s, 60 ≤ s → g s = 0) : ∀ s, 60 ≤ s → notS se tr fi la sh ac k g s = 0 := by
  obtain ⟨a1, a2, a3, a4, a5, -, -⟩ := hN.2.2 k hk hk2
  have h60 := hM.2 k hk hk2
  have e : ∀ s, 60 ≤ s → fdA (rowS se tr fi la sh k) g (fi k) (la k + 1) s = 0 := by
    refine fdA_inv (I := fun _ (g : Int → Int) => ∀ s, 60 ≤ s → g s = 0) (by omega) h (fun j f h1 h2 h3 s hs => ?_)
    unfold rowS
    by_cases c : hol se fi la sh k j = 0
    · rw [if_pos c]; exact h3 s hs
    · rw [if_neg c]
      unfold pnS
      rw [uI_n _ _ (by omega)]
      exact h3 s hs
  intro s hs
  unfold notS
  by_cases c : ac k = 0
  · rw [if_pos c]; exact e s hs
  · rw [if_neg c]
    unfold pnS
    rw [uI_n _ _ (by omega)]
    exact e s hs
theorem HO_hi (hN : NT tr fi la sh no) (hM : SM la no) : ∀ s, 60 ≤ s → HO se tr fi la sh ac no s = 0 := by
  unfold HO
  have n0 := hN.1
  exact fdA_inv (I := fun _ (g : Int → Int) => ∀ s, 60 ≤ s → g s = 0) (by omega) (fun s _ => rfl) (fun j g h1 h2 h3 => not_hi hN hM h1 h2 h3)
theorem L_holes (hL : LRm lq ln se tr fi la sh ac no) (hN : NT tr fi la sh no) (hE : SE se) (hA : AC ac) (hM : SM la no) (hf : 300 ≤ fu) :
    ∃ lh', f_L_holes fu lq ln lh = some lh' ∧ E6 lh' (HO se tr fi la sh ac no) := by
  have n0 := hN.1
  have n12 := hM.1
  unfold f_L_holes
  obtain ⟨p, e, i1, i2⟩ := loop_upI (L := fun q (s : Int → Int) i => f_L_holes_L2 fu (f_L_holes_X18 fu lq ln) q s i) (f_L_holes_X18 fu lq ln)
    (fun i p => 0 ≤ i ∧ ∀ q, 0 ≤ q → q < i → p q = 0) 64
    (fun q s hI => by
      show f_L_holes_L2_b fu _ _ s 64 = _
      unfold f_L_holes_L2_b
      rw [jck_of (by omega) (by omega) (by omega) (by omega), if_pos (by omega)])
    (fun q s i hi hI => by
      obtain ⟨i1, i2⟩ := hI
      refine ⟨uI s i 0, ?_, by omega, fun x x0 x1 => ?_⟩
      · show f_L_holes_L2_b fu _ _ s i = _
        unfold f_L_holes_L2_b
        rw [jck_of (by omega) (by omega) (by omega) (by omega), if_neg (by omega), jix_of (by omega) (by omega)]
      · by_cases c : x = i
        · rw [c, uI_s]
        · rw [uI_n _ _ c]; exact i2 x x0 (by omega))
    64 fu lh 0 (by omega) (by omega) ⟨by omega, fun q h1 h2 => by omega⟩
  have e' : f_L_holes_L2 fu (f_L_holes_X18 fu lq ln) fu lh 0 = f_L_holes_X18 fu lq ln p := e
  rw [e']
  unfold f_L_holes_X18
  obtain ⟨p2, e2, j1, j2⟩ := loop_upI (L := fun q (s : Int → Int) i => f_L_holes_L20 fu lq ln (f_L_holes_X135 fu) q s i) (f_L_holes_X135 fu)
    (fun i p => 0 ≤ i ∧ E6 p (fdA (notS se tr fi la sh ac) (fun _ => 0) 0 i)) no
    (fun q s hI => by
      show f_L_holes_L20_b fu lq ln _ _ s no = _
      unfold f_L_holes_L20_b
      rw [jix_of (by omega) (by omega), hL.2.1, jck_of (by omega) (by omega) (by omega) (by omega), if_pos (by omega)])
    (fun q s i hi hI => by
      obtain ⟨i1, i2⟩ := hI
      obtain ⟨a1, a2, a3, a4, a5, -, -⟩ := hN.2.2 i i1 hi
      have h60 := hM.2 i i1 hi
      obtain ⟨r0, r1, r2, r3⟩ := lr4 (hL.2.2 i i1 hi)
      refine ⟨notS se tr fi la sh ac i s, ?_, by omega, by rw [fdA_s _ _ i1]; exact E6_not hN hM i1 hi i2⟩
      show f_L_holes_L20_b fu lq ln _ _ s i = _
      unfold f_L_holes_L20_b
      rw [jix_of (by omega) (by omega), hL.2.1, jck_of (by omega) (by omega) (by omega) (by omega), if_neg (by omega), jix_of (by omega) (by omega), jre_of (by omega) (by omega) (by omega) (by omega), jix_of (by omega) (by omega), jre_of (by omega) (by omega) (by omega) (by omega), r0, show (100 * fi i + tr i) / 100 = fi i by omega, show (100 * fi i + tr i) % 100 = tr i by omega]
      obtain ⟨v, e, k1, rfl⟩ := loop_upI (L := fun r (g : Int → Int) a => f_L_holes_L47 fu lq ln i (f_L_holes_X87 fu ln i (f_L_holes_L20 fu lq ln (f_L_holes_X135 fu) q)) r g (tr i) a) (fun g => f_L_holes_X87 fu ln i (f_L_holes_L20 fu lq ln (f_L_holes_X135 fu) q) g (tr i))
        (fun a g => fi i ≤ a ∧ g = fdA (rowS se tr fi la sh i) s (fi i) a) (la i + 1)
        (fun r g hI => by
          show f_L_holes_L47_b fu lq ln i _ _ g (tr i) (la i + 1) = _
          unfold f_L_holes_L47_b
          rw [jix_of (by omega) (by omega), r1, jck_of (by omega) (by omega) (by omega) (by omega), if_pos (by omega)])
        (fun r g a ha hI => by
          obtain ⟨k1, rfl⟩ := hI
          refine ⟨_, ?_, by omega, rfl⟩
          show f_L_holes_L47_b fu lq ln i _ _ _ (tr i) a = _
          unfold f_L_holes_L47_b
          have := hol_01 se fi la sh i a
          rw [jix_of (by omega) (by omega), r1, jck_of (by omega) (by omega) (by omega) (by omega), if_neg (by omega), L_hole hL hN hE hM i1 hi k1 (by omega) (by omega), jb_s, jck_of (by omega) (by omega) (by omega) (by omega), fdA_s _ _ k1]
          by_cases c : hol se fi la sh i a = 0
          · have e9 : rowS se tr fi la sh i a (fdA (rowS se tr fi la sh i) s (fi i) a) = fdA (rowS se tr fi la sh i) s (fi i) a := if_pos c
            rw [if_pos c, e9]
          · have e9 : rowS se tr fi la sh i a (fdA (rowS se tr fi la sh i) s (fi i) a) = pnS (tr i) (fdA (rowS se tr fi la sh i) s (fi i) a) a := if_neg c
            rw [if_neg c, e9, jix_of (by omega) (by omega), jix_of (by omega) (by omega)]
            rfl)
        (la i + 1 - fi i).toNat fu s (fi i) (by omega) (by omega) ⟨by omega, by rw [fdA_0]⟩
      refine e.trans ?_
      have hb := hA i i1 (by omega)
      unfold f_L_holes_X87 f_L_holes_J126
      rw [jix_of (by omega) (by omega), r3, jck_of (by omega) (by omega) (by omega) (by omega)]
      by_cases c : ac i = 0
      · have e9 : notS se tr fi la sh ac i s = fdA (rowS se tr fi la sh i) s (fi i) (la i + 1) := if_pos c
        rw [if_pos (by omega), e9]
      · have e9 : notS se tr fi la sh ac i s = pnS (accT (tr i)) (fdA (rowS se tr fi la sh i) s (fi i) (la i + 1)) (fi i) := if_neg c
        rw [if_neg (by omega), e9, jix_of (by omega) (by omega), r0, jre_of (by omega) (by omega) (by omega) (by omega), show (100 * fi i + tr i) / 100 = fi i by omega, jix_of (by omega) (by omega), jck_of (by omega) (by omega) (by omega) (by omega)]
        by_cases d : tr i = 11
        · have e8 : accT (tr i) = 10 := by unfold accT; rw [if_pos d, d]; rfl
          rw [if_neg (by omega), e8, jix_of (by omega) (by omega)]
          rfl
        · have e8 : accT (tr i) = tr i + 1 := if_neg d
          rw [if_pos d, e8, jix_of (by omega) (by omega)]
          rfl)
    no.toNat fu p 0 (by omega) (by omega) ⟨by omega, by rw [fdA_0]; exact fun s h1 h2 => i2 s h1 h2⟩
  have e2' : f_L_holes_L20 fu lq ln (f_L_holes_X135 fu) fu p 0 = f_L_holes_X135 fu p2 := e2
  rw [e2']
  exact ⟨p2, rfl, j2⟩
theorem L_heard {h s : Int} (hq : lq 2 = h) (h0 : 0 ≤ h) (h4 : h ≤ 4) (h6 : E6 lh H) (hST : ∀ q, ST (H q)) (s0 : 0 ≤ s) (s1 : s < 64) (hf : 200 ≤ fu) : f_L_heard fu lq lh s = some (EHs H h s) := by
  unfold f_L_heard
  have m1 := jmax_l (a := 0) (b := s - h)
  have m2 := jmax_r (a := 0) (b := s - h)
  have m3 := jmax_or (a := 0) (b := s - h)
  obtain ⟨t, e, k1, k2⟩ := loop_dn (L := fun q (v : Int) i => f_L_heard_L5 fu lq lh s (f_L_heard_X33 fu) q v i) (fun i v => jor v (lh i)) (f_L_heard_X33 fu)
    (fun i v => i ≤ s ∧ v = fdA (fun a v => jor v (H a)) 0 (i + 1) (s + 1)) (jmax 0 (s - h) - 1)
    (fun q v hI => by
      show f_L_heard_L5_b fu lq lh s _ _ v (jmax 0 (s - h) - 1) = _
      unfold f_L_heard_L5_b
      rw [jck_of (by omega) (by omega) (by omega) (by omega)]
      by_cases c : jmax 0 (s - h) - 1 < 0
      · rw [if_pos c]
      · rw [if_neg c, jix_of (by omega) (by omega), hq, jck_of (by omega) (by omega) (by omega) (by omega), if_pos (by omega)])
    (fun q v i hi hI => by
      obtain ⟨i1, i2⟩ := hI
      refine ⟨?_, by omega, ?_⟩
      · show f_L_heard_L5_b fu lq lh s _ _ v i = _
        unfold f_L_heard_L5_b
        rw [jck_of (by omega) (by omega) (by omega) (by omega), if_neg (by omega), jix_of (by omega) (by omega), hq, jck_of (by omega) (by omega) (by omega) (by omega), if_neg (by omega), jix_of (by omega) (by omega)]
      · rw [i2, h6 i (by omega) (by omega), show i + -1 + 1 = i by omega]
        exact (or_front (ho := H) (by omega) (hST i).rg).symm)
    (s - (jmax 0 (s - h) - 1)).toNat fu 0 s (by omega) (by omega) ⟨by omega, by rw [fdA_0]⟩
  have e' : f_L_heard_L5 fu lq lh s (f_L_heard_X33 fu) fu 0 s = f_L_heard_X33 fu t := e
  rw [e', k2, show jmax 0 (s - h) - 1 + 1 = jmax 0 (s - h) by omega]
  rfl
theorem sbs_0 : sbs 0 = 0 := by decide +kernel
theorem wk64 {we : Int} (hw : 1 ≤ we) (hH : ∀ s, 64 ≤ s → H s = 0) : wkN H we = fdA (fun s m => if we ≤ sbs (H s) then m + 1 else m) 0 0 64 := by
  unfold wkN
  have := fdA_tail (f := fun s (m : Int) => if we ≤ sbs (H s) then m + 1 else m) (s0 := 0) (a := 0) (b := 64) (by omega) 36 (fun j s j0 j1 => by
    show (if we ≤ sbs (H j) then s + 1 else s) = s
    rw [hH j j0, sbs_0, if_neg (by omega)])
  exact this
theorem L_weak (hL : LRm lq ln se tr fi la sh ac no) (hN : NT tr fi la sh no) (hE : SE se) (hA : AC ac) (hM : SM la no) (hf : 300 ≤ fu) :
    ∃ lh', f_L_weak fu lq ln lh = some (wkN (HO se tr fi la sh ac no) (se 3), lh') ∧ E6 lh' (HO se tr fi la sh ac no) := by
  obtain ⟨lh', e, h6⟩ := L_holes (fu := fu) (lh := lh) hL hN hE hA hM hf
  obtain ⟨-, -, -, q3⟩ := hL.1
  obtain ⟨-, -, -, -, -, -, w1, w2⟩ := hE
  refine ⟨lh', ?_, h6⟩
  unfold f_L_weak
  rw [e, jb_s]
  obtain ⟨p, e2, i1, i2⟩ := loop_upI (L := fun q (s : Int) i => f_L_weak_L11 fu lq lh' (f_L_weak_X45 fu lh') q s i) (f_L_weak_X45 fu lh')
    (fun i p => 0 ≤ i ∧ p = fdA (fun s m => if se 3 ≤ sbs (HO se tr fi la sh ac no s) then m + 1 else m) 0 0 i) 64
    (fun q s hI => by
      show f_L_weak_L11_b fu lq lh' _ _ s 64 = _
      unfold f_L_weak_L11_b
      rw [jck_of (by omega) (by omega) (by omega) (by omega), if_pos (by omega)])
    (fun q s i hi hI => by
      obtain ⟨i1, i2⟩ := hI
      refine ⟨_, ?_, by omega, rfl⟩
      show f_L_weak_L11_b fu lq lh' _ _ s i = _
      unfold f_L_weak_L11_b
      have hs := sbs_in (HO se tr fi la sh ac no i)
      rw [jck_of (by omega) (by omega) (by omega) (by omega), if_neg (by omega), jix_of (by omega) (by omega), h6 i i1 hi, L_side (HO_ST hN i) (by omega), jb_s, jix_of (by omega) (by omega), q3, jck_of (by omega) (by omega) (by omega) (by omega), fdA_s _ _ i1, i2]
      by_cases c : se 3 ≤ sbs (HO se tr fi la sh ac no i)
      · rw [if_neg (by omega), if_pos c]
      · rw [if_pos (by omega), if_neg c, Int.add_zero])
    64 fu 0 0 (by omega) (by omega) ⟨by omega, by rw [fdA_0]⟩
  have e2' : f_L_weak_L11 fu lq lh' (f_L_weak_X45 fu lh') fu 0 0 = f_L_weak_X45 fu lh' p := e2
  rw [e2', i2, wk64 (by omega) (fun s hs => HO_hi hN hM s (by omega))]
  rfl
theorem L_taken {t a b : Int} (hL : LRm lq ln se tr fi la sh ac no) (hN : NT tr fi la sh no) (hM : SM la no) (t0 : -2147483648 ≤ t) (t1 : t < 2147483648) (a0 : -2147483648 ≤ a) (a1 : a < 2147483648) (b0 : -2147483648 ≤ b) (b1 : b < 2147483648) (hf : 100 ≤ fu) :
    ∃ r, f_L_taken fu lq ln t a b = some r ∧ (r = 0 ∨ r = 1) ∧ (r = 1 ↔ ∃ k, 0 ≤ k ∧ k < no ∧ (tr k = t ∧ fi k ≤ b ∧ a ≤ la k)) := by
  have n0 := hN.1
  have n12 := hM.1
  unfold f_L_taken
  have key : ∀ (n fuel : Nat) (i : Int), 0 ≤ i → i + n = no → n < fuel → (∀ k, 0 ≤ k → k < i → ¬ (tr k = t ∧ fi k ≤ b ∧ a ≤ la k)) → ∃ r, f_L_taken_L3 fu lq ln t a b (f_L_taken_X60 fu) fuel i = some r ∧ (r = 0 ∨ r = 1) ∧ (r = 1 ↔ ∃ k, 0 ≤ k ∧ k < no ∧ (tr k = t ∧ fi k ≤ b ∧ a ≤ la k)) := by
    intro n
    induction n with
    | zero =>
      intro fuel i h1 h2 h3 h4
      obtain ⟨q, rfl⟩ : ∃ q, fuel = q + 1 := ⟨fuel - 1, by omega⟩
      refine ⟨0, ?_, Or.inl rfl, fun h => absurd h (by omega), fun ⟨k, k0, k1, k2⟩ => absurd k2 (h4 k k0 (by omega))⟩
      show f_L_taken_L3_b fu lq ln t a b _ _ i = _
      unfold f_L_taken_L3_b f_L_taken_X60
      rw [jix_of (by omega) (by omega), hL.2.1, jck_of (by omega) (by omega) (by omega) (by omega), if_pos (by omega), jbo_of (by omega)]
    | succ n ih =>
      intro fuel i h1 h2 h3 h4
      obtain ⟨q, rfl⟩ : ∃ q, fuel = q + 1 := ⟨fuel - 1, by omega⟩
      obtain ⟨a1', a2', a3', a4', a5', -, -⟩ := hN.2.2 i h1 (by omega)
      obtain ⟨r0, r1, r2, r3⟩ := lr4 (hL.2.2 i h1 (by omega))
      have next : ¬ (tr i = t ∧ fi i ≤ b ∧ a ≤ la i) → ∃ r, f_L_taken_L3 fu lq ln t a b (f_L_taken_X60 fu) q (i + 1) = some r ∧ (r = 0 ∨ r = 1) ∧ (r = 1 ↔ ∃ k, 0 ≤ k ∧ k < no ∧ (tr k = t ∧ fi k ≤ b ∧ a ≤ la k)) := fun h => ih q (i + 1) (by omega) (by omega) (by omega) (fun k k0 k1 => by
        by_cases d : k = i
        · rw [d]; exact h
        · exact h4 k k0 (by omega))
      have ex : f_L_taken_L3 fu lq ln t a b (f_L_taken_X60 fu) (q + 1) i = f_L_taken_L3_b fu lq ln t a b (f_L_taken_X60 fu) (f_L_taken_L3 fu lq ln t a b (f_L_taken_X60 fu) q) i := rfl
      rw [ex]
      unfold f_L_taken_L3_b
      rw [jix_of (by omega) (by omega), hL.2.1, jck_of (by omega) (by omega) (by omega) (by omega), if_neg (by omega), jix_of (by omega) (by omega), jre_of (by omega) (by omega) (by omega) (by omega), r0, show (100 * fi i + tr i) % 100 = tr i by omega, jck_of (by omega) (by omega) (by omega) (by omega)]
      by_cases c : tr i = t
      · rw [if_neg (by omega), jix_of (by omega) (by omega), jre_of (by omega) (by omega) (by omega) (by omega), show (100 * fi i + tr i) / 100 = fi i by omega, jck_of (by omega) (by omega) (by omega) (by omega)]
        by_cases d : b < fi i
        · rw [if_pos d]
          exact next (fun h => by omega)
        · rw [if_neg d, jix_of (by omega) (by omega), r1, jck_of (by omega) (by omega) (by omega) (by omega)]
          by_cases g : la i < a
          · rw [if_pos g]
            exact next (fun h => by omega)
          · rw [if_neg g, jbo_of (by omega)]
            exact ⟨1, rfl, Or.inr rfl, fun _ => ⟨i, h1, by omega, c, by omega, by omega⟩, fun _ => rfl⟩
      · rw [if_pos c]
        exact next (fun h => c h.1)
  exact key no.toNat fu 0 (by omega) (by omega) (by omega) (fun k k0 k1 => by omega)
end Q70
