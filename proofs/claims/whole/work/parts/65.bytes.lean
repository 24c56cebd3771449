/-! bytes of a word; put side by side -/
section
variable {fu : Nat}
def nW (x : Int64) : Nat := x.toUInt64.toNat
theorem nW_lt (x : Int64) : nW x < 18446744073709551616 := x.toUInt64.toNat_lt
theorem nW_inj {x y : Int64} (h : nW x = nW y) : x = y := by
  cases x; cases y
  exact congrArg Int64.ofUInt64 (UInt64.toNat_inj.mp h)
theorem nW_ushr (x : Int64) {k : Int} (j : Nat) (hk : ((jI k).toInt64.toUInt64 &&& Int64.toUInt64 63).toNat = j) (hj : j < 64) : nW (jlushr x k) = nW x / 2 ^ j := by
  show ((x.toUInt64 >>> ((jI k).toInt64.toUInt64 &&& Int64.toUInt64 63))).toNat = _
  rw [UInt64.toNat_shiftRight, hk, Nat.mod_eq_of_lt hj, Nat.shiftRight_eq_div_pow]
  rfl
theorem nW_and (x : Int64) : nW (x &&& 255) = nW x % 256 := by
  show ((x.toUInt64 &&& (255 : Int64).toUInt64)).toNat = _
  rw [UInt64.toNat_and, show (Int64.toUInt64 255).toNat = 255 from by decide]
  exact Nat.and_two_pow_sub_one_eq_mod _ 8
theorem nW_0 : nW 0 = 0 := by decide
theorem jlcmp0 (x : Int64) : jlcmp x 0 = 0 ↔ nW x = 0 := by
  unfold jlcmp lg_cmp
  constructor
  · intro h
    by_cases c1 : x > 0
    · rw [if_pos c1] at h
      exact absurd h (by decide)
    rw [if_neg c1] at h
    by_cases c2 : x = 0
    · rw [c2]; exact nW_0
    rw [if_neg c2] at h
    exact absurd h (by decide)
  · intro h
    have e : x = 0 := nW_inj (h.trans nW_0.symm)
    subst e
    decide
theorem jlcmp_rg (x w : Int64) : rg (jlcmp x w) := rg_of (lg_cmp x w)
theorem jl2i_n (y : Int64) (h : nW y < 256) : jl2i y = (nW y : Int) := by
  have e : y = Int64.ofNat (nW y) := by
    apply nW_inj
    show nW y = (UInt64.ofNat (nW y)).toNat
    rw [UInt64.toNat_ofNat_of_lt']
    exact nW_lt y
  generalize nW y = n at h e
  subst e
  unfold jl2i
  have e3 : (Int64.ofNat n).toInt = n := by
    rw [Int64.toInt_ofNat_of_lt]
    omega
  rw [Int64.toInt_toInt32, e3]
  rw [Int.bmod_eq_of_le] <;> omega
theorem jl2i_and (x : Int64) : jl2i (x &&& 255) = ((nW x % 256 : Nat) : Int) := by
  rw [jl2i_n _ (by rw [nW_and]; omega), nW_and]
theorem jand_l2i (x : Int64) : jand (jl2i x) 255 = jl2i (x &&& 255) := by
  unfold jand jl2i jI
  rw [Int64.toInt32_and]
  rw [Int32.ofInt_toInt]
  rfl
theorem nW_8 (x : Int64) {k : Int} (h0 : 0 ≤ k) (h1 : k < 8) : nW (jlushr x (8 * k)) = nW x / 256 ^ k.toNat := by
  have h : k = 0 ∨ k = 1 ∨ k = 2 ∨ k = 3 ∨ k = 4 ∨ k = 5 ∨ k = 6 ∨ k = 7 := by omega
  rcases h with h | h | h | h | h | h | h | h <;> subst h
  · exact nW_ushr x 0 (by decide) (by decide)
  · exact nW_ushr x 8 (by decide) (by decide)
  · exact nW_ushr x 16 (by decide) (by decide)
  · exact nW_ushr x 24 (by decide) (by decide)
  · exact nW_ushr x 32 (by decide) (by decide)
  · exact nW_ushr x 40 (by decide) (by decide)
  · exact nW_ushr x 48 (by decide) (by decide)
  · exact nW_ushr x 56 (by decide) (by decide)
theorem nW_1 (x : Int64) : nW (jlushr x 8) = nW x / 256 := nW_ushr x 8 (by decide) (by decide)
def byt (w : Int64) (k : Int) : Int := ((nW w / 256 ^ k.toNat % 256 : Nat) : Int)
theorem byt_r (w : Int64) (k : Int) : 0 ≤ byt w k ∧ byt w k < 256 := by
  unfold byt
  omega
theorem q_byt (w : Int64) {k : Int} (h0 : 0 ≤ k) (h1 : k < 8) : jl2i (jlushr w (8 * k) &&& 255) = byt w k := by
  rw [jl2i_and, nW_8 w h0 h1]
  rfl
theorem q_codeIn (w : Int64) {k : Int} (h0 : 0 ≤ k) (h1 : k < 8) : f_X4_codeIn fu w k = some (byt w k) := by
  unfold f_X4_codeIn
  rw [q_isIn_t (by omega) (by omega) (by omega) (by omega), jb_s, jck_of (by omega) (by omega) (by omega) (by omega), if_neg (by omega), jand_l2i, q_byt w h0 h1]
def GB (w : Int64) (n : Int) : Prop := 0 < n ∧ n ≤ 8 ∧ (∀ k, 0 ≤ k → k < n → 33 ≤ byt w k ∧ byt w k ≤ 126) ∧ nW w / 256 ^ n.toNat = 0
theorem byt_z {w : Int64} {n k : Int} (h : nW w / 256 ^ n.toNat = 0) (h1 : n ≤ k) : nW w / 256 ^ k.toNat = 0 := by
  have e : nW w < 256 ^ n.toNat := (Nat.div_eq_zero_iff_lt (Nat.pow_pos (by decide))).mp h
  have e2 : 256 ^ n.toNat ≤ 256 ^ k.toNat := Nat.pow_le_pow_right (by decide) (by omega)
  exact Nat.div_eq_of_lt (by omega)
theorem byt_z0 {w : Int64} {n k : Int} (h : nW w / 256 ^ n.toNat = 0) (h1 : n ≤ k) : byt w k = 0 := by
  unfold byt
  rw [byt_z h h1]
  rfl
theorem nW_top (w : Int64) : nW w / 256 ^ (8 : Int).toNat = 0 := Nat.div_eq_of_lt (nW_lt w)
theorem q_chars (w : Int64) (hf : 100 ≤ fu) : ∃ r, f_X4_charactersIn fu w = some r ∧ ((r = 0 ∧ ∀ n, ¬ GB w n) ∨ GB w r) := by
  have key : ∀ (j : Nat) (q : Nat) (k : Int), 0 ≤ k → k + j = 8 → j < q → (∀ i, 0 ≤ i → i < k → 33 ≤ byt w i ∧ byt w i ≤ 126) → ∃ r, f_X4_charactersIn_L2 fu w (f_X4_charactersIn_X54 fu) q k = some r ∧ ((r = 0 ∧ ∀ n, ¬ GB w n) ∨ GB w r) := by
    intro j
    induction j with
    | zero =>
      intro q k h0 h1 h2 hg
      obtain ⟨q, rfl⟩ : ∃ q', q = q' + 1 := ⟨q - 1, by omega⟩
      have e : k = 8 := by omega
      subst e
      refine ⟨8, ?_, Or.inr ⟨by omega, by omega, hg, nW_top w⟩⟩
      show f_X4_charactersIn_L2_b fu w _ _ 8 = _
      unfold f_X4_charactersIn_L2_b
      rw [jck_of (by omega) (by omega) (by omega) (by omega), if_pos (by omega)]
      rfl
    | succ j ih =>
      intro q k h0 h1 h2 hg
      obtain ⟨q, rfl⟩ : ∃ q', q = q' + 1 := ⟨q - 1, by omega⟩
      have hb := byt_r w k
      show ∃ r, f_X4_charactersIn_L2_b fu w _ _ k = some r ∧ _
      unfold f_X4_charactersIn_L2_b
      rw [jck_of (by omega) (by omega) (by omega) (by omega), if_neg (by omega), q_codeIn w h0 (by omega), jb_s, jck_of (by omega) (by omega) (by omega) (by omega)]
      by_cases c : byt w k = 0
      · rw [if_neg (by omega)]
        have hr := jlcmp_rg (jlushr w (8 * k)) 0
        rw [jck_of hr.1 hr.2 (by omega) (by omega)]
        have hz := jlcmp0 (jlushr w (8 * k))
        rw [nW_8 w h0 (by omega)] at hz
        by_cases d : jlcmp (jlushr w (8 * k)) 0 = 0
        · rw [if_neg (fun z => z d)]
          refine ⟨k, rfl, ?_⟩
          by_cases e : k = 0
          · subst e
            refine Or.inl ⟨rfl, fun n hn => ?_⟩
            have := hn.2.2.1 0 (by omega) hn.1
            omega
          · exact Or.inr ⟨by omega, by omega, hg, hz.mp d⟩
        · rw [if_pos d]
          refine ⟨0, rfl, Or.inl ⟨rfl, fun n hn => ?_⟩⟩
          by_cases e : k < n
          · have := hn.2.2.1 k h0 e
            omega
          · exact d (hz.mpr (byt_z hn.2.2.2 (by omega)))
      · rw [if_pos c]
        by_cases d : 33 ≤ byt w k ∧ byt w k ≤ 126
        · rw [q_isIn_t d.1 d.2 (by omega) (by omega), jb_s, jck_of (by omega) (by omega) (by omega) (by omega), if_pos (by omega)]
          refine ih q (k + 1) (by omega) (by omega) (by omega) (fun i i0 i1 => ?_)
          by_cases e : i < k
          · exact hg i i0 e
          · have : i = k := by omega
            rw [this]; exact d
        · rw [q_isIn_f (by omega) (by omega) (by omega) (by omega) (by omega) (by omega) (by omega), jb_s, jck_of (by omega) (by omega) (by omega) (by omega), if_neg (by omega)]
          refine ⟨0, rfl, Or.inl ⟨rfl, fun n hn => ?_⟩⟩
          by_cases e : k < n
          · exact d (hn.2.2.1 k h0 e)
          · exact c (byt_z0 hn.2.2.2 (by omega))
  exact key 8 fu 0 (by omega) (by omega) (by omega) (fun i i0 i1 => by omega)
theorem m_within_t {v a b : Int} (h1 : a ≤ v) (h2 : v ≤ b) (h3 : -2147483648 ≤ a) (h4 : b < 2147483648) : f_X5_within fu v a b = some 1 := q_isIn_t (fu := fu) h1 h2 h3 h4
theorem m_within_f {v a b : Int} (h : v < a ∨ b < v) (h1 : -2147483648 ≤ v) (h2 : v < 2147483648) (h3 : -2147483648 ≤ a) (h4 : a < 2147483648) (h5 : -2147483648 ≤ b) (h6 : b < 2147483648) : f_X5_within fu v a b = some 0 := q_isIn_f (fu := fu) h h1 h2 h3 h4 h5 h6
theorem m_putL (pd : Int → Int) (pn : Int) (w : Int64) : ∀ (j q : Nat) (k : Int) (v : Int64) (f : Int), 0 ≤ k → k + j = 8 → j < q → nW v = nW w / 256 ^ k.toNat → (∀ i, 0 ≤ i → i < k → byt w i ≠ 0) → (f = 0 ∨ f = 1) → (f = 1 ↔ ∀ i, 0 ≤ i → i < k → 33 ≤ byt w i ∧ byt w i ≤ 126) → ∃ n v2 f2, f_X5_put_L8 fu (f_X5_put_X67 fu pd pn w) q k v f = f_X5_put_X67 fu pd pn w n v2 f2 ∧ 0 ≤ n ∧ n ≤ 8 ∧ nW v2 = nW w / 256 ^ n.toNat ∧ (n < 8 → byt w n = 0) ∧ (∀ i, 0 ≤ i → i < n → byt w i ≠ 0) ∧ (f2 = 0 ∨ f2 = 1) ∧ (f2 = 1 ↔ ∀ i, 0 ≤ i → i < n → 33 ≤ byt w i ∧ byt w i ≤ 126) := by
  intro j
  induction j with
  | zero =>
    intro q k v f h0 h1 h2 hv hg hf hf2
    obtain ⟨q, rfl⟩ : ∃ q', q = q' + 1 := ⟨q - 1, by omega⟩
    refine ⟨k, v, f, ?_, h0, by omega, hv, fun z => by omega, hg, hf, hf2⟩
    show f_X5_put_L8_b fu _ _ k v f = _
    unfold f_X5_put_L8_b
    rw [jck_of (by omega) (by omega) (by omega) (by omega), if_pos (by omega)]
  | succ j ih =>
    intro q k v f h0 h1 h2 hv hg hf hf2
    obtain ⟨q, rfl⟩ : ∃ q', q = q' + 1 := ⟨q - 1, by omega⟩
    have hb := byt_r w k
    have hlow : jl2i (v &&& 255) = byt w k := by
      rw [jl2i_and, hv]
      rfl
    have hz := jlcmp0 (v &&& 255)
    have hr := jlcmp_rg (v &&& 255) 0
    have hz2 : jlcmp (v &&& 255) 0 = 0 ↔ byt w k = 0 := by
      rw [hz, nW_and, hv]
      unfold byt
      omega
    show ∃ n v2 f2, f_X5_put_L8_b fu _ _ k v f = _ ∧ _
    unfold f_X5_put_L8_b
    rw [jck_of (by omega) (by omega) (by omega) (by omega), if_neg (by omega), jck_of hr.1 hr.2 (by omega) (by omega)]
    by_cases c : byt w k = 0
    · rw [if_pos (hz2.mpr c)]
      exact ⟨k, v, f, rfl, h0, by omega, hv, fun _ => c, hg, hf, hf2⟩
    · rw [if_neg (fun z => c (hz2.mp z)), jck_of (by omega) (by omega) (by omega) (by omega)]
      have hv8 : nW (jlushr v 8) = nW w / 256 ^ (k + 1).toNat := by
        rw [nW_1, hv, show (k + 1).toNat = k.toNat + 1 by omega, Nat.pow_succ, Nat.div_div_eq_div_mul]
      have hg8 : ∀ i, 0 ≤ i → i < k + 1 → byt w i ≠ 0 := by
        intro i i0 i1
        by_cases e : i < k
        · exact hg i i0 e
        · have : i = k := by omega
          rw [this]; exact c
      by_cases d : f = 0
      · rw [if_pos d]
        refine ih q (k + 1) (jlushr v 8) 0 (by omega) (by omega) (by omega) hv8 hg8 (Or.inl rfl) ⟨fun z => by omega, fun z => ?_⟩
        have := hf2.mpr (fun i i0 i1 => z i i0 (by omega))
        omega
      · rw [if_neg d, hlow]
        by_cases e : 33 ≤ byt w k ∧ byt w k ≤ 126
        · rw [m_within_t e.1 e.2 (by omega) (by omega), jb_s, jck_of (by omega) (by omega) (by omega) (by omega), if_neg (by omega)]
          refine ih q (k + 1) (jlushr v 8) 1 (by omega) (by omega) (by omega) hv8 hg8 (Or.inr rfl) ⟨fun _ i i0 i1 => ?_, fun _ => rfl⟩
          by_cases g : i < k
          · exact hf2.mp (by omega) i i0 g
          · have : i = k := by omega
            rw [this]; exact e
        · rw [m_within_f (by omega) (by omega) (by omega) (by omega) (by omega) (by omega) (by omega), jb_s, jck_of (by omega) (by omega) (by omega) (by omega), if_pos (by omega)]
          refine ih q (k + 1) (jlushr v 8) 0 (by omega) (by omega) (by omega) hv8 hg8 (Or.inl rfl) ⟨fun z => by omega, fun z => ?_⟩
          exact absurd (z k h0 (by omega)) e
def PDt (tx : Int → Int) (le : Int) (pd : Int → Int) (pn : Int) : Prop := 0 ≤ le ∧ le ≤ 60 ∧ pn = le ∧ ∀ k, 0 ≤ k → k < le → tx k = pd k ∧ 33 ≤ pd k ∧ pd k ≤ 126
theorem PDt_put {tx pd : Int → Int} {le pn x : Int} (h : PDt tx le pd pn) (h1 : le < 60) (h2 : 33 ≤ x) (h3 : x ≤ 126) : PDt (uI tx le x) (le + 1) (uI pd pn x) (pn + 1) := by
  obtain ⟨a, b, c, d⟩ := h
  refine ⟨by omega, by omega, by omega, fun k k0 k1 => ?_⟩
  rw [c, uI_at, uI_at]
  by_cases e : k = le
  · rw [if_pos e, if_pos e]
    exact ⟨rfl, h2, h3⟩
  · rw [if_neg e, if_neg e]
    exact d k k0 (by omega)
theorem op_append (w : Int64) : ∀ (j q1 q2 : Nat) (v : Int) (tx pd : Int → Int) (le pn : Int), v + 1 = j → j ≤ 8 → j < q1 → j < q2 → (∀ k : Int, 0 ≤ k → k < j → 33 ≤ byt w k ∧ byt w k ≤ 126) → le + j ≤ 60 → PDt tx le pd pn → ∃ r tx2 le2 pd2 pn2, f_X4_put_L34 fu w (f_X4_put_X59 fu) q1 tx le v = some (r, tx2, le2) ∧ f_X5_put_L105 fu w (f_X5_put_X147 fu) q2 pd pn v = some (r, pd2, pn2) ∧ PDt tx2 le2 pd2 pn2 := by
  intro j
  induction j with
  | zero =>
    intro q1 q2 v tx pd le pn hv h8 h1 h2 hg hl hP
    obtain ⟨q1, rfl⟩ : ∃ q', q1 = q' + 1 := ⟨q1 - 1, by omega⟩
    obtain ⟨q2, rfl⟩ : ∃ q', q2 = q' + 1 := ⟨q2 - 1, by omega⟩
    have e1 : f_X4_put_L34 fu w (f_X4_put_X59 fu) (q1 + 1) tx le v = some (le, tx, le) := by
      show f_X4_put_L34_b fu w _ _ tx le v = _
      unfold f_X4_put_L34_b
      rw [jck_of (by omega) (by omega) (by omega) (by omega), if_pos (by omega)]
      rfl
    have e2 : f_X5_put_L105 fu w (f_X5_put_X147 fu) (q2 + 1) pd pn v = some (pn, pd, pn) := by
      show f_X5_put_L105_b fu w _ _ pd pn v = _
      unfold f_X5_put_L105_b
      rw [jck_of (by omega) (by omega) (by omega) (by omega), if_pos (by omega)]
      rfl
    rw [e1, e2, hP.2.2.1]
    exact ⟨_, _, _, _, _, rfl, rfl, by have := hP; rw [hP.2.2.1] at this; exact this⟩
  | succ j ih =>
    intro q1 q2 v tx pd le pn hv h8 h1 h2 hg hl hP
    obtain ⟨q1, rfl⟩ : ∃ q', q1 = q' + 1 := ⟨q1 - 1, by omega⟩
    obtain ⟨q2, rfl⟩ : ∃ q', q2 = q' + 1 := ⟨q2 - 1, by omega⟩
    have hb := hg v (by omega) (by omega)
    have hp0 := hP.1
    have hpn := hP.2.2.1
    have e1 : f_X4_put_L34 fu w (f_X4_put_X59 fu) (q1 + 1) tx le v = f_X4_put_L34 fu w (f_X4_put_X59 fu) q1 (uI tx le (byt w v)) (le + 1) (v + (-1)) := by
      show f_X4_put_L34_b fu w _ _ tx le v = _
      unfold f_X4_put_L34_b f_X1_append
      rw [jck_of (by omega) (by omega) (by omega) (by omega), if_neg (by omega), q_codeIn w (by omega) (by omega), jb_s, jch_of (by omega) (by omega), jck_of (by omega) (by omega) (by omega) (by omega), if_neg (by omega), jix_of (by omega) (by omega), jch_of (by omega) (by omega), jb2_s]
    have e2 : f_X5_put_L105 fu w (f_X5_put_X147 fu) (q2 + 1) pd pn v = f_X5_put_L105 fu w (f_X5_put_X147 fu) q2 (uI pd pn (byt w v)) (pn + 1) (v + (-1)) := by
      show f_X5_put_L105_b fu w _ _ pd pn v = _
      unfold f_X5_put_L105_b
      rw [jck_of (by omega) (by omega) (by omega) (by omega), if_neg (by omega), jix_of (by omega) (by omega), q_byt w (by omega) (by omega)]
    rw [e1, e2]
    exact ih q1 q2 (v + (-1)) _ _ _ _ (by omega) (by omega) (by omega) (by omega) (fun k k0 k1 => hg k k0 (by omega)) (by omega) (PDt_put hP (by omega) hb.1 hb.2)
theorem op_put {tx pd : Int → Int} {le pn : Int} (w : Int64) (hP : PDt tx le pd pn) (hf : 500 ≤ fu) : ∃ r tx2 le2 pd2 pn2, f_X4_put fu tx le w = some (r, tx2, le2) ∧ f_X5_put fu pd pn w = some (r, pd2, pn2) ∧ PDt tx2 le2 pd2 pn2 := by
  obtain ⟨r, er, hr⟩ := q_chars (fu := fu) w (by omega)
  obtain ⟨n, v2, f2, em, n0, n8, hv2, hn8, hnz, hf01, hf2⟩ := m_putL (fu := fu) pd pn w 8 fu 0 w 1 (by omega) (by omega) (by omega) (by simp) (fun i i0 i1 => by omega) (Or.inr rfl) ⟨fun _ i i0 i1 => by omega, fun _ => rfl⟩
  unfold f_X4_put f_X5_put
  rw [er, jb_s, em]
  unfold f_X5_put_X67
  have hp0 := hP.1
  have hp6 := hP.2.1
  have hpn := hP.2.2.1
  have hz := jlcmp0 v2
  have hrg := jlcmp_rg v2 0
  have hGn : n ≠ 0 → f2 ≠ 0 → nW v2 = 0 → GB w n := fun z1 z2 z3 => ⟨by omega, n8, hf2.mp (by omega), by rw [← hv2]; exact z3⟩
  rcases hr with ⟨r0, hno⟩ | hG
  · subst r0
    rw [jck_of (by omega) (by omega) (by omega) (by omega), if_neg (show ¬ (0 : Int) ≠ 0 by omega), jck_of (by omega) (by omega) (by omega) (by omega)]
    refine ⟨-2, tx, le, pd, pn, rfl, ?_, hP⟩
    by_cases c1 : n = 0
    · rw [if_pos c1]
    rw [if_neg c1, jck_of (by omega) (by omega) (by omega) (by omega)]
    by_cases c2 : f2 = 0
    · rw [if_pos c2]
    rw [if_neg c2, jck_of hrg.1 hrg.2 (by omega) (by omega)]
    by_cases c3 : jlcmp v2 0 = 0
    · exact absurd (hGn c1 c2 (hz.mp c3)) (hno n)
    · rw [if_neg c3]
  · have hrn : r = n := by
      have h1 : ¬ n < r := by
        intro z
        have a1 := hG.2.2.1 n n0 z
        have a2 := hn8 (by have := hG.2.1; omega)
        omega
      have h2 : ¬ r < n := by
        intro z
        have a1 := hnz r (by have := hG.1; omega) z
        exact a1 (byt_z0 hG.2.2.2 (by omega))
      omega
    subst hrn
    have g1 := hG.1
    have g2 := hG.2.1
    rw [jck_of (by omega) (by omega) (by omega) (by omega), if_pos (show r ≠ 0 by omega)]
    unfold f_X1_length
    rw [jb_s, jck_of (by omega) (by omega) (by omega) (by omega)]
    have c2 : ¬ f2 = 0 := by
      have := hf2.mpr hG.2.2.1
      omega
    have c3 : jlcmp v2 0 = 0 := hz.mpr (by rw [hv2]; exact hG.2.2.2)
    rw [jck_of (a := r) (b := 0) (by omega) (by omega) (by omega) (by omega), if_neg (show ¬ r = 0 by omega), jck_of (a := f2) (by omega) (by omega) (by omega) (by omega), if_neg c2, jck_of (a := jlcmp v2 0) hrg.1 hrg.2 (by omega) (by omega), if_pos c3, hpn, jck_of (by omega) (by omega) (by omega) (by omega)]
    rw [hpn] at hP
    by_cases c4 : le + r ≤ 60
    · rw [if_pos c4, if_pos c4]
      exact op_append w r.toNat fu fu (r - 1) tx pd le le (by omega) (by omega) (by omega) (by omega) (fun k k0 k1 => hG.2.2.1 k k0 (by omega)) (by omega) hP
    · rw [if_neg c4, if_neg c4]
      exact ⟨_, _, _, _, _, rfl, rfl, hP⟩
end
