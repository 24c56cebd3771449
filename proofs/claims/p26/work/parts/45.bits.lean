/-! bits of small sets -/
theorem jN (n : Nat) : jI (n : Int) = nI n := rfl
theorem jnx_and (a b : Nat) : nI a &&& nI b = nI (a &&& b) := by
  apply Int32.toBitVec_inj.1
  show BitVec.ofNat 32 a &&& BitVec.ofNat 32 b = BitVec.ofNat 32 (a &&& b)
  apply BitVec.eq_of_getLsbD_eq
  intro i hi
  simp [hi]
theorem jnx_or (a b : Nat) : nI a ||| nI b = nI (a ||| b) := by
  apply Int32.toBitVec_inj.1
  show BitVec.ofNat 32 a ||| BitVec.ofNat 32 b = BitVec.ofNat 32 (a ||| b)
  apply BitVec.eq_of_getLsbD_eq
  intro i hi
  simp [hi]
theorem js_l : ∀ n, n < 32 → ((nI n &&& 31).toBitVec.smod 32).toNat = n := by decide +kernel
theorem jor_N {a b : Nat} (ha : a < 4096) (hb : b < 4096) : jor (a : Int) (b : Int) = ((a ||| b : Nat) : Int) ∧ a ||| b < 4096 := by
  have h : a ||| b < 2 ^ 12 := Nat.or_lt_two_pow (by omega) (by omega)
  refine ⟨?_, by omega⟩
  unfold jor
  rw [jN, jN, jnx_or, nI_toInt (by omega)]
theorem jshl_N {k : Nat} (hk : k < 12) : jshl 1 (k : Int) = ((2 ^ k : Nat) : Int) ∧ 2 ^ k < 4096 := by
  have h : 2 ^ k < 2 ^ 12 := Nat.pow_lt_pow_right (by omega) hk
  refine ⟨?_, by omega⟩
  unfold jshl
  have e := pk_shlN (n := 1) (nI k &&& 31) k (js_l k (by omega)) (by omega)
  show (nI 1 <<< (nI k &&& 31)).toInt = _
  rw [e, Nat.one_mul, nI_toInt (by omega)]
theorem jshr_N {n k : Nat} (hn : n < 4096) (hk : k < 12) : jshr (n : Int) (k : Int) = ((n / 2 ^ k : Nat) : Int) ∧ n / 2 ^ k < 4096 := by
  have h : n / 2 ^ k ≤ n := Nat.div_le_self _ _
  refine ⟨?_, by omega⟩
  unfold jshr
  show (nI n >>> (nI k &&& 31)).toInt = _
  rw [pk_shrN (by omega) _ k (js_l k (by omega)), nI_toInt (by omega)]
theorem jand1_N {n : Nat} (hn : n < 4096) : jand (n : Int) 1 = ((n % 2 : Nat) : Int) := by
  unfold jand
  show (nI n &&& nI 1).toInt = _
  rw [jnx_and, Nat.and_one_is_mod, nI_toInt (by omega)]
theorem bit_N {n k : Nat} (hn : n < 4096) (hk : k < 12) : jand (jshr (n : Int) (k : Int)) 1 = ((n / 2 ^ k % 2 : Nat) : Int) := by
  obtain ⟨e, h⟩ := jshr_N hn hk
  rw [e, jand1_N h]
theorem bit_tb {n k : Nat} (hn : n < 4096) (hk : k < 12) : jand (jshr (n : Int) (k : Int)) 1 = 1 ↔ n.testBit k = true := by
  rw [bit_N hn hk, Nat.testBit_eq_decide_div_mod_eq]
  constructor
  · intro h; exact decide_eq_true (by omega)
  · intro h; have := of_decide_eq_true h; omega
/-- a set of tracks -/
def ST (v : Int) : Prop := 0 ≤ v ∧ v < 4096
theorem ST_0 : ST 0 := ⟨by omega, by omega⟩
theorem ST_or {a b : Int} (ha : ST a) (hb : ST b) : ST (jor a b) := by
  obtain ⟨m, rfl⟩ : ∃ m : Nat, a = m := ⟨a.toNat, (Int.toNat_of_nonneg ha.1).symm⟩
  obtain ⟨n, rfl⟩ : ∃ n : Nat, b = n := ⟨b.toNat, (Int.toNat_of_nonneg hb.1).symm⟩
  have h1 := ha.2
  have h2 := hb.2
  obtain ⟨e, h⟩ := jor_N (a := m) (b := n) (by omega) (by omega)
  rw [e]
  exact ⟨by omega, by omega⟩
theorem ST_shl {t : Int} (h1 : 0 ≤ t) (h2 : t < 12) : ST (jshl 1 t) := by
  obtain ⟨m, rfl⟩ : ∃ m : Nat, t = m := ⟨t.toNat, (Int.toNat_of_nonneg h1).symm⟩
  obtain ⟨e, h⟩ := jshl_N (k := m) (by omega)
  rw [e]
  exact ⟨Int.natCast_nonneg _, Int.ofNat_lt.mpr h⟩
theorem bit_or {a b t : Int} (ha : ST a) (hb : ST b) (h1 : 0 ≤ t) (h2 : t < 12) : jand (jshr (jor a b) t) 1 = 1 ↔ jand (jshr a t) 1 = 1 ∨ jand (jshr b t) 1 = 1 := by
  obtain ⟨m, rfl⟩ : ∃ m : Nat, a = m := ⟨a.toNat, (Int.toNat_of_nonneg ha.1).symm⟩
  obtain ⟨n, rfl⟩ : ∃ n : Nat, b = n := ⟨b.toNat, (Int.toNat_of_nonneg hb.1).symm⟩
  obtain ⟨k, rfl⟩ : ∃ k : Nat, t = k := ⟨t.toNat, (Int.toNat_of_nonneg h1).symm⟩
  have h3 := ha.2
  have h4 := hb.2
  obtain ⟨e, h⟩ := jor_N (a := m) (b := n) (by omega) (by omega)
  rw [e, bit_tb h (by omega), bit_tb (by omega) (by omega), bit_tb (by omega) (by omega), Nat.testBit_or, Bool.or_eq_true]
theorem bit_shl {t : Int} (h1 : 0 ≤ t) (h2 : t < 12) : jand (jshr (jshl 1 t) t) 1 = 1 := by
  obtain ⟨k, rfl⟩ : ∃ k : Nat, t = k := ⟨t.toNat, (Int.toNat_of_nonneg h1).symm⟩
  obtain ⟨e, h⟩ := jshl_N (k := k) (by omega)
  rw [e, bit_tb h (by omega)]
  exact Nat.testBit_two_pow_self
theorem bit_01 {v t : Int} (hv : ST v) (h1 : 0 ≤ t) (h2 : t < 12) : jand (jshr v t) 1 = 0 ∨ jand (jshr v t) 1 = 1 := by
  obtain ⟨m, rfl⟩ : ∃ m : Nat, v = m := ⟨v.toNat, (Int.toNat_of_nonneg hv.1).symm⟩
  obtain ⟨k, rfl⟩ : ∃ k : Nat, t = k := ⟨t.toNat, (Int.toNat_of_nonneg h1).symm⟩
  have h3 := hv.2
  rw [bit_N (by omega) (by omega)]
  omega
theorem bit_0 {t : Int} (h1 : 0 ≤ t) (h2 : t < 12) : jand (jshr 0 t) 1 = 0 := by
  obtain ⟨k, rfl⟩ : ∃ k : Nat, t = k := ⟨t.toNat, (Int.toNat_of_nonneg h1).symm⟩
  have := bit_N (n := 0) (k := k) (by omega) (by omega)
  rw [Nat.zero_div] at this
  exact this
theorem jor_comm (a b : Int) : jor a b = jor b a := by unfold jor; rw [Int32.or_comm]
theorem jor_assoc (a b c : Int) : jor (jor a b) c = jor a (jor b c) := by unfold jor; rw [jI_of, jI_of, Int32.or_assoc]
theorem jor_0 {a : Int} (h : rg a) : jor a 0 = a := by
  unfold jor
  rw [show jI 0 = 0 from by decide +kernel, Int32.or_zero, jI_toInt h]
theorem jor_0l {a : Int} (h : rg a) : jor 0 a = a := by rw [jor_comm, jor_0 h]
