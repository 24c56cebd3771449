/-! history, undo, save, restore -/
theorem jb6_s {t1 t2 t3 t4 t5 t6 γ : Type} (a1 : t1) (a2 : t2) (a3 : t3) (a4 : t4) (a5 : t5) (a6 : t6) (k : t1 → t2 → t3 → t4 → t5 → t6 → Option γ) : jb6 (some (a1, a2, a3, a4, a5, a6)) k = k a1 a2 a3 a4 a5 a6 := rfl
theorem jb7_s {t1 t2 t3 t4 t5 t6 t7 γ : Type} (a1 : t1) (a2 : t2) (a3 : t3) (a4 : t4) (a5 : t5) (a6 : t6) (a7 : t7) (k : t1 → t2 → t3 → t4 → t5 → t6 → t7 → Option γ) : jb7 (some (a1, a2, a3, a4, a5, a6, a7)) k = k a1 a2 a3 a4 a5 a6 a7 := rfl
theorem jb8_s {t1 t2 t3 t4 t5 t6 t7 t8 γ : Type} (a1 : t1) (a2 : t2) (a3 : t3) (a4 : t4) (a5 : t5) (a6 : t6) (a7 : t7) (a8 : t8) (k : t1 → t2 → t3 → t4 → t5 → t6 → t7 → t8 → Option γ) : jb8 (some (a1, a2, a3, a4, a5, a6, a7, a8)) k = k a1 a2 a3 a4 a5 a6 a7 a8 := rfl
theorem jb9_s {t1 t2 t3 t4 t5 t6 t7 t8 t9 γ : Type} (a1 : t1) (a2 : t2) (a3 : t3) (a4 : t4) (a5 : t5) (a6 : t6) (a7 : t7) (a8 : t8) (a9 : t9) (k : t1 → t2 → t3 → t4 → t5 → t6 → t7 → t8 → t9 → Option γ) : jb9 (some (a1, a2, a3, a4, a5, a6, a7, a8, a9)) k = k a1 a2 a3 a4 a5 a6 a7 a8 a9 := rfl
theorem fm_all : ∀ n, n < 16 → f_J9_floorMod_7cf53 0 ((n : Nat) : Int) 6 = some (((n : Nat) : Int) % 6) := by decide +kernel
theorem q_placeOf {fu : Nat} {ol x : Int} (h1 : 0 ≤ ol + x) (h2 : ol + x < 16) : f_X0_placeOf fu ol x = some ((ol + x) % 6) := by
  have := fm_all (ol + x).toNat (by omega)
  rw [Int.toNat_of_nonneg h1] at this
  have e : f_J9_floorMod_7cf53 fu (ol + x) 6 = some ((ol + x) % 6) := this
  unfold f_X0_placeOf
  rw [e, jb_s]
def EQn (n : Int) (f g : Int → Int) : Prop := ∀ q, 0 ≤ q → q < n → f q = g q
theorem EQn_cpy (n : Int) (f g : Int → Int) : EQn n (jcpy f g n) f := fun _ h1 h2 => jcpy_in f g h1 h2
theorem EQn_rf (n : Int) (f : Int → Int) : EQn n f f := fun _ _ _ => rfl
theorem RSt_ext {st se tr fi la sh ac st' se' tr' fi' la' sh' ac' : Int → Int} {no : Int} (h : RSt st se tr fi la sh ac no) (h0 : EQn 205 st' st) (h1 : EQn 4 se' se) (h2 : EQn 40 tr' tr) (h3 : EQn 40 fi' fi) (h4 : EQn 40 la' la) (h5 : EQn 40 sh' sh) (h6 : EQn 40 ac' ac) : RSt st' se' tr' fi' la' sh' ac' no := by
  obtain ⟨⟨⟨r0, r1, r2, r3⟩, r4, r5⟩, hN, hE, hA, hO, hD⟩ := h
  have n1 := hN.2.1
  refine ⟨⟨⟨?_, ?_, ?_, ?_⟩, ?_, fun k k0 k1 => ?_⟩, ⟨hN.1, n1, fun k k0 k1 => ?_⟩, ?_, fun k k0 k1 => ?_, fun j k j0 jk k1 => ?_, fun j k j0 jk k1 => ?_⟩
  · rw [h0 _ (by omega) (by omega), h1 _ (by omega) (by omega)]; exact r0
  · rw [h0 _ (by omega) (by omega), h1 _ (by omega) (by omega)]; exact r1
  · rw [h0 _ (by omega) (by omega), h1 _ (by omega) (by omega)]; exact r2
  · rw [h0 _ (by omega) (by omega), h1 _ (by omega) (by omega)]; exact r3
  · rw [h0 _ (by omega) (by omega)]; exact r4
  · rw [h0 _ (by omega) (by omega), h0 _ (by omega) (by omega), h0 _ (by omega) (by omega), h0 _ (by omega) (by omega), h0 _ (by omega) (by omega), h2 k k0 (by omega), h3 k k0 (by omega), h4 k k0 (by omega), h5 k k0 (by omega), h6 k k0 (by omega)]
    exact r5 k k0 k1
  · rw [h2 k k0 (by omega), h3 k k0 (by omega), h4 k k0 (by omega), h5 k k0 (by omega)]
    exact hN.2.2 k k0 k1
  · unfold SE
    rw [h1 0 (by omega) (by omega), h1 1 (by omega) (by omega), h1 2 (by omega) (by omega), h1 3 (by omega) (by omega)]
    exact hE
  · rw [h6 k k0 k1]; exact hA k k0 k1
  · unfold kO
    rw [h2 j j0 (by omega), h3 j j0 (by omega), h2 k (by omega) (by omega), h3 k (by omega) (by omega)]
    exact hO j k j0 jk k1
  · rw [h2 j j0 (by omega), h4 j j0 (by omega), h2 k (by omega) (by omega), h3 k (by omega) (by omega)]
    exact hD j k j0 jk k1
def HRt (rc : Int) (hsf : Int → Int) (ol si : Int) (k_se k_tr k_fi k_la k_sh k_ac : Int → Int → Int) (k_no : Int → Int) : Prop :=
  rc = si ∧ (0 ≤ si ∧ si ≤ 6) ∧ (0 ≤ ol ∧ ol < 6) ∧ ∀ q, 0 ≤ q → q < si → RSt (fun i => hsf (205 * q + i)) (k_se ((ol + q) % 6)) (k_tr ((ol + q) % 6)) (k_fi ((ol + q) % 6)) (k_la ((ol + q) % 6)) (k_sh ((ol + q) % 6)) (k_ac ((ol + q) % 6)) (k_no ((ol + q) % 6))
section Q53
variable {fu : Nat} {st se tr fi la sh ac hsf : Int → Int} {no rc ol si : Int} {k_se k_tr k_fi k_la k_sh k_ac : Int → Int → Int} {k_no : Int → Int}
theorem q_record {p : Int} (hA : AC ac) (hp : (ol + si) % 6 = p) (s0 : 0 ≤ si) (s1 : si ≤ 6) (o0 : 0 ≤ ol) (o1 : ol < 6) (hf : 100 ≤ fu) :
    f_X0_record fu ol si k_se k_tr k_fi k_la k_sh k_ac k_no se tr fi la sh ac no = some (if 6 ≤ si then (ol + 1) % 6 else ol, if 6 ≤ si then si else si + 1, uI k_se p (jcpy se (k_se p) 4), uI k_tr p (jcpy tr (k_tr p) 40), uI k_fi p (jcpy fi (k_fi p) 40), uI k_la p (jcpy la (k_la p) 40), uI k_sh p (jcpy sh (k_sh p) 40), uI k_ac p (jcpy ac (k_ac p) 40), uI k_no p no) := by
  have p0 : 0 ≤ p ∧ p < 6 := by omega
  unfold f_X0_record
  rw [q_placeOf (by omega) (by omega), jb_s, hp, jix_of (by omega) (by omega), q_placeOf (ol := ol) (x := 1) (by omega) (by omega)]
  simp only [q_become hA hf, jb7_s, jb_s]
  rw [jck_of (by omega) (by omega) (by omega) (by omega)]
  have hc : p = 0 ∨ p = 1 ∨ p = 2 ∨ p = 3 ∨ p = 4 ∨ p = 5 := by omega
  rcases hc with h | h | h | h | h | h <;> subst h <;> (by_cases c : 6 ≤ si <;> simp (disch := omega) only [jck_of, if_pos, if_neg, c, if_true, if_false] <;> rfl)
theorem m_moves {n0 n2 : Nat} {f g : Int → Int} {a b : Int} (a0 : 0 ≤ a) (a1 : a + 205 ≤ n0) (b0 : 0 ≤ b) (b1 : b + 205 ≤ n2) (hf : 300 ≤ fu) :
    f_X5_moves fu n0 n2 f g a b = some (fun q => if b ≤ q ∧ q < b + 205 then f (q - b + a) else g q) := by
  unfold f_X5_moves
  obtain ⟨p, e, i1, rfl⟩ := loop_upI (L := fun q (s : Int → Int) i => f_X5_moves_L3 fu n0 n2 f a b (f_X5_moves_X29 fu) q s i) (f_X5_moves_X29 fu)
    (fun i p => 0 ≤ i ∧ p = fun q => if b ≤ q ∧ q < b + i then f (q - b + a) else g q) 205
    (fun q s hI => by
      show f_X5_moves_L3_b fu n0 n2 f a b _ _ s 205 = _
      unfold f_X5_moves_L3_b
      rw [jck_of (by omega) (by omega) (by omega) (by omega), if_pos (by omega)])
    (fun q s i hi hI => by
      obtain ⟨i1, rfl⟩ := hI
      refine ⟨_, ?_, by omega, rfl⟩
      show f_X5_moves_L3_b fu n0 n2 f a b _ _ _ i = _
      unfold f_X5_moves_L3_b
      rw [jck_of (by omega) (by omega) (by omega) (by omega), if_neg (by omega), jix_of (by omega) (by omega), jix_of (by omega) (by omega)]
      congr 1
      funext q
      unfold uI
      by_cases c : q = b + i
      · subst c
        rw [if_pos rfl, if_pos (by omega)]
        congr 1
        omega
      · rw [if_neg c]
        show (if b ≤ q ∧ q < b + i then f (q - b + a) else g q) = _
        by_cases d : b ≤ q ∧ q < b + i
        · rw [if_pos d, if_pos (by omega)]
        · rw [if_neg d, if_neg (by omega)])
    205 fu g 0 (by omega) (by omega) ⟨by omega, by funext q; rw [if_neg (by omega)]⟩
  exact e
theorem m_record (r0 : 0 ≤ rc) (r1 : rc ≤ 6) (hf : 2000 ≤ fu) :
    ∃ hsf', f_X5_record fu rc st hsf = some (if rc = 6 then 6 else rc + 1, hsf') ∧ (∀ q, 0 ≤ q → q < 205 → hsf' (205 * (if rc = 6 then 5 else rc) + q) = st q) ∧ (rc ≠ 6 → ∀ q, q < 205 * rc → hsf' q = hsf q) ∧ (rc = 6 → ∀ q, 0 ≤ q → q < 1025 → hsf' q = hsf (q + 205)) := by
  unfold f_X5_record f_X5_record_J50
  rw [jck_of (by omega) (by omega) (by omega) (by omega)]
  by_cases c : rc = 6
  · rw [if_neg (by omega), if_pos c, if_pos c]
    obtain ⟨h', e, i1, i2, i3⟩ := loop_upI (L := fun q (s : Int → Int) i => f_X5_record_L11 fu (f_X5_record_X40 fu st) q rc s i) (f_X5_record_X40 fu st rc)
      (fun i s => 0 ≤ i ∧ (∀ q, 0 ≤ q → q < i → s q = hsf (q + 205)) ∧ (∀ q, i ≤ q → s q = hsf q)) 1025
      (fun q s hI => by
        show f_X5_record_L11_b fu _ _ rc s 1025 = _
        unfold f_X5_record_L11_b
        rw [jck_of (by omega) (by omega) (by omega) (by omega), if_pos (by omega)])
      (fun q s i hi hI => by
        obtain ⟨i1, i2, i3⟩ := hI
        refine ⟨uI s i (s (i + 205)), ?_, by omega, fun x x0 x1 => ?_, fun x x0 => ?_⟩
        · show f_X5_record_L11_b fu _ _ rc s i = _
          unfold f_X5_record_L11_b
          rw [jck_of (by omega) (by omega) (by omega) (by omega), if_neg (by omega), jix_of (by omega) (by omega), jix_of (by omega) (by omega)]
        · by_cases d : x = i
          · rw [d, uI_s, i3 _ (by omega)]
          · rw [uI_n _ _ d, i2 x x0 (by omega)]
        · rw [uI_n _ _ (by omega), i3 x (by omega)])
      1025 fu hsf 0 (by omega) (by omega) ⟨by omega, fun q h1 h2 => by omega, fun _ _ => rfl⟩
    have e' : f_X5_record_L11 fu (f_X5_record_X40 fu st) fu rc hsf 0 = f_X5_record_X40 fu st rc h' := e
    rw [e']
    unfold f_X5_record_X40 f_X5_record_J50
    rw [m_moves (by omega) (by omega) (by omega) (by omega) (by omega), jb_s]
    refine ⟨_, by rw [show rc - 1 + 1 = 6 by omega], fun q q0 q1 => ?_, fun h => absurd c h, fun _ q q0 q1 => ?_⟩
    · show (if _ then _ else _) = _
      rw [if_pos (by omega)]
      congr 1
      omega
    · show (if _ then _ else _) = _
      rw [if_neg (by omega), i2 q q0 q1]
  · rw [if_pos c, if_neg c, if_neg c, m_moves (by omega) (by omega) (by omega) (by omega) (by omega), jb_s]
    refine ⟨_, rfl, fun q q0 q1 => ?_, fun _ q q1 => ?_, fun h => absurd h c⟩
    · show (if _ then _ else _) = _
      rw [if_pos (by omega)]
      congr 1
      omega
    · show (if _ then _ else _) = _
      rw [if_neg (by omega)]
theorem uI_so {α : Type} (f : Int → α) (i j : Int) (x : α) (h : j = i) : uI f i x j = x := if_pos h
theorem op_record (hS : RSt st se tr fi la sh ac no) (hH : HRt rc hsf ol si k_se k_tr k_fi k_la k_sh k_ac k_no) (hf : 2000 ≤ fu) :
    ∃ rc' hsf' ol' si' k_se' k_tr' k_fi' k_la' k_sh' k_ac' k_no', f_X0_record fu ol si k_se k_tr k_fi k_la k_sh k_ac k_no se tr fi la sh ac no = some (ol', si', k_se', k_tr', k_fi', k_la', k_sh', k_ac', k_no') ∧ f_X5_record fu rc st hsf = some (rc', hsf') ∧ HRt rc' hsf' ol' si' k_se' k_tr' k_fi' k_la' k_sh' k_ac' k_no' := by
  obtain ⟨rfl, ⟨s0, s1⟩, ⟨o0, o1⟩, hK⟩ := hH
  obtain ⟨hsf', e, m1, m2, m3⟩ := m_record (fu := fu) (st := st) (hsf := hsf) s0 s1 hf
  refine ⟨_, _, _, _, _, _, _, _, _, _, _, q_record (p := (ol + rc) % 6) hS.2.2.2.1 rfl s0 s1 o0 o1 (by omega), e, ?_⟩
  have own : ∀ q P, 0 ≤ q → q < 6 → P = (ol + rc) % 6 → 205 * q = 205 * (if rc = 6 then 5 else rc) → RSt (fun i => hsf' (205 * q + i)) (uI k_se ((ol + rc) % 6) (jcpy se (k_se ((ol + rc) % 6)) 4) P) (uI k_tr ((ol + rc) % 6) (jcpy tr (k_tr ((ol + rc) % 6)) 40) P) (uI k_fi ((ol + rc) % 6) (jcpy fi (k_fi ((ol + rc) % 6)) 40) P) (uI k_la ((ol + rc) % 6) (jcpy la (k_la ((ol + rc) % 6)) 40) P) (uI k_sh ((ol + rc) % 6) (jcpy sh (k_sh ((ol + rc) % 6)) 40) P) (uI k_ac ((ol + rc) % 6) (jcpy ac (k_ac ((ol + rc) % 6)) 40) P) (uI k_no ((ol + rc) % 6) no P) := by
    intro q P q0 q1 hP hq
    rw [hP, uI_s, uI_s, uI_s, uI_s, uI_s, uI_s, uI_s]
    refine RSt_ext hS (fun x x0 x1 => ?_) (EQn_cpy _ _ _) (EQn_cpy _ _ _) (EQn_cpy _ _ _) (EQn_cpy _ _ _) (EQn_cpy _ _ _) (EQn_cpy _ _ _)
    show hsf' (205 * q + x) = _
    rw [hq]
    exact m1 x x0 x1
  by_cases c : rc = 6
  · subst c
    rw [if_pos rfl, if_pos (by omega), if_pos (by omega)]
    refine ⟨rfl, ⟨by omega, by omega⟩, ⟨by omega, by omega⟩, fun q q0 q1 => ?_⟩
    by_cases d : q = 5
    · exact own q _ q0 q1 (by omega) (by rw [if_pos rfl]; omega)
    · have hk := hK (q + 1) (by omega) (by omega)
      have hP : ((ol + 1) % 6 + q) % 6 = (ol + (q + 1)) % 6 := by omega
      have hn : (ol + (q + 1)) % 6 ≠ (ol + 6) % 6 := by omega
      rw [hP, uI_n _ _ hn, uI_n _ _ hn, uI_n _ _ hn, uI_n _ _ hn, uI_n _ _ hn, uI_n _ _ hn, uI_n _ _ hn]
      refine RSt_ext hk (fun x x0 x1 => ?_) (EQn_rf _ _) (EQn_rf _ _) (EQn_rf _ _) (EQn_rf _ _) (EQn_rf _ _) (EQn_rf _ _)
      show hsf' (205 * q + x) = hsf (205 * (q + 1) + x)
      rw [m3 rfl _ (by omega) (by omega)]
      congr 1
      omega
  · rw [if_neg c, if_neg (by omega), if_neg (by omega)]
    refine ⟨rfl, ⟨by omega, by omega⟩, ⟨by omega, by omega⟩, fun q q0 q1 => ?_⟩
    by_cases d : q = rc
    · exact own q _ q0 (by omega) (by rw [d]) (by rw [if_neg c, d])
    · have hk := hK q (by omega) (by omega)
      have hn : (ol + q) % 6 ≠ (ol + rc) % 6 := by omega
      rw [uI_n _ _ hn, uI_n _ _ hn, uI_n _ _ hn, uI_n _ _ hn, uI_n _ _ hn, uI_n _ _ hn, uI_n _ _ hn]
      refine RSt_ext hk (fun x x0 x1 => ?_) (EQn_rf _ _) (EQn_rf _ _) (EQn_rf _ _) (EQn_rf _ _) (EQn_rf _ _) (EQn_rf _ _)
      show hsf' (205 * q + x) = hsf (205 * q + x)
      rw [m2 c _ (by omega)]
end Q53
