/-! sums over steps and tracks; sets of tracks counted -/
def sm (f : Int → Int) (n : Int) : Int := fdA (fun s m => m + f s) 0 0 n
theorem sm_0 (f : Int → Int) : sm f 0 = 0 := fdA_0 _ _ _
theorem sm_s (f : Int → Int) {n : Int} (h : 0 ≤ n) : sm f (n + 1) = sm f n + f n := fdA_s _ _ h
theorem sm_congr {f g : Int → Int} {n : Int} (h : ∀ s, 0 ≤ s → s < n → f s = g s) : sm f n = sm g n :=
  fdA_congr (fun j s h1 h2 => by
    show s + f j = s + g j
    rw [h j h1 h2])
theorem sm_add (f g : Int → Int) : ∀ n : Nat, sm (fun s => f s + g s) n = sm f n + sm g n
  | 0 => by rw [show ((0 : Nat) : Int) = 0 from rfl, sm_0, sm_0, sm_0]; rfl
  | n + 1 => by
    rw [show ((n + 1 : Nat) : Int) = (n : Int) + 1 by omega, sm_s _ (by omega), sm_s _ (by omega), sm_s _ (by omega), sm_add f g n]
    omega
theorem sm_zero {f : Int → Int} : ∀ n : Nat, (∀ s, 0 ≤ s → s < n → f s = 0) → sm f n = 0
  | 0, _ => sm_0 f
  | n + 1, h => by
    rw [show ((n + 1 : Nat) : Int) = (n : Int) + 1 by omega, sm_s _ (by omega), sm_zero n (fun s s0 s1 => h s s0 (by omega)), h n (by omega) (by omega)]
    rfl
theorem sm_swap (c : Int → Int → Int) (N : Nat) : ∀ n : Nat, sm (fun s => sm (fun t => c t s) N) n = sm (fun t => sm (fun s => c t s) n) N
  | 0 => by
    rw [show ((0 : Nat) : Int) = 0 from rfl, sm_0]
    exact (sm_zero N (fun s _ _ => sm_0 _)).symm
  | n + 1 => by
    rw [show ((n + 1 : Nat) : Int) = (n : Int) + 1 by omega, sm_s _ (by omega), sm_swap c N n]
    rw [sm_congr (f := fun t => sm (fun s => c t s) ((n : Int) + 1)) (g := fun t => sm (fun s => c t s) n + c t n) (fun t t0 t1 => sm_s _ (by omega))]
    exact (sm_add (fun t => sm (fun s => c t s) n) (fun t => c t n) N).symm
theorem sm_one {x w : Int} (h0 : 0 ≤ x) : ∀ n : Nat, x < n → sm (fun s => if s = x then w else 0) n = w
  | 0, h => by omega
  | n + 1, h => by
    rw [show ((n + 1 : Nat) : Int) = (n : Int) + 1 by omega, sm_s _ (by omega)]
    by_cases c : (n : Int) = x
    · rw [sm_zero n (fun s s0 s1 => by rw [if_neg (by omega)]), if_pos c]
      omega
    · rw [sm_one h0 n (by omega), if_neg c]
      omega
theorem cnt_sm {P : Int → Prop} [DecidablePred P] {n : Int} : fdA (fun j (m : Int) => if P j then m + 1 else m) 0 0 n = sm (fun j => if P j then 1 else 0) n :=
  fdA_congr (fun j s _ _ => by
    show (if P j then s + 1 else s) = s + (if P j then 1 else 0)
    by_cases c : P j
    · rw [if_pos c, if_pos c]
    · rw [if_neg c, if_neg c]; omega)
theorem tb4095 : ∀ i, i < 12 → Nat.testBit 4095 i = true := by decide
theorem jandn_N {a b : Nat} (ha : a < 4096) : jand (a : Int) (jxor (b : Int) (-1)) = ((a &&& (4095 ^^^ b) : Nat) : Int) := by
  have e1 : (jI (-1)).toBitVec = BitVec.allOnes 32 := by decide +kernel
  have hle : a &&& (4095 ^^^ b) ≤ a := Nat.and_le_left
  have e : nI a &&& (nI b ^^^ jI (-1)) = nI (a &&& (4095 ^^^ b)) := by
    apply Int32.toBitVec_inj.1
    show (nI a).toBitVec &&& ((nI b).toBitVec ^^^ (jI (-1)).toBitVec) = (nI (a &&& (4095 ^^^ b))).toBitVec
    rw [e1]
    show BitVec.ofNat 32 a &&& (BitVec.ofNat 32 b ^^^ BitVec.allOnes 32) = BitVec.ofNat 32 (a &&& (4095 ^^^ b))
    apply BitVec.eq_of_getLsbD_eq
    intro i hi
    rw [BitVec.getLsbD_and, BitVec.getLsbD_xor, BitVec.getLsbD_ofNat, BitVec.getLsbD_ofNat, BitVec.getLsbD_ofNat, BitVec.getLsbD_allOnes, Nat.testBit_and, Nat.testBit_xor, decide_eq_true hi]
    by_cases h12 : i < 12
    · rw [tb4095 i h12]
      cases a.testBit i <;> cases b.testBit i <;> rfl
    · have h : a.testBit i = false := Nat.testBit_lt_two_pow (Nat.lt_of_lt_of_le (show a < 2 ^ 12 by omega) (Nat.pow_le_pow_right (by omega) (by omega)))
      rw [h]
      cases b.testBit i <;> cases Nat.testBit 4095 i <;> rfl
  unfold jand jxor
  rw [jI_of, jN, jN, e, nI_toInt (by omega)]
theorem bit_andn {a b t : Int} (ha : ST a) (hb : ST b) (h1 : 0 ≤ t) (h2 : t < 12) : ST (jand a (jxor b (-1))) ∧ (jand (jshr (jand a (jxor b (-1))) t) 1 = 1 ↔ jand (jshr a t) 1 = 1 ∧ ¬ jand (jshr b t) 1 = 1) := by
  obtain ⟨m, rfl⟩ : ∃ m : Nat, a = m := ⟨a.toNat, (Int.toNat_of_nonneg ha.1).symm⟩
  obtain ⟨n, rfl⟩ : ∃ n : Nat, b = n := ⟨b.toNat, (Int.toNat_of_nonneg hb.1).symm⟩
  obtain ⟨k, rfl⟩ : ∃ k : Nat, t = k := ⟨t.toNat, (Int.toNat_of_nonneg h1).symm⟩
  have h3 := ha.2
  have h4 := hb.2
  have hle : m &&& (4095 ^^^ n) ≤ m := Nat.and_le_left
  rw [jandn_N (by omega)]
  refine ⟨⟨by omega, by omega⟩, ?_⟩
  rw [bit_tb (by omega) (by omega), bit_tb (by omega) (by omega), bit_tb (by omega) (by omega), Nat.testBit_and, Nat.testBit_xor, tb4095 k (by omega)]
  cases m.testBit k <;> cases n.testBit k <;> decide
theorem bit_if {v t : Int} {P : Prop} [Decidable P] (hv : ST v) (h1 : 0 ≤ t) (h2 : t < 12) (h : jand (jshr v t) 1 = 1 ↔ P) : jand (jshr v t) 1 = if P then 1 else 0 := by
  by_cases c : P
  · rw [if_pos c]; exact h.mpr c
  · rw [if_neg c]
    rcases bit_01 hv h1 h2 with h3 | h3
    · exact h3
    · exact absurd (h.mp h3) c
theorem EH_hi {H : Int → Int} {h s : Int} (hH : ∀ s, 60 ≤ s → H s = 0) (h4 : h ≤ 4) (hs : 64 ≤ s) : EHs H h s = 0 := by
  unfold EHs
  have m2 := jmax_r (a := 0) (b := s - h)
  have m3 := jmax_or (a := 0) (b := s - h)
  by_cases c : jmax 0 (s - h) ≤ s + 1
  · exact fdA_inv (I := fun _ v => v = 0) c rfl (fun j v j0 j1 hv => by
      show jor v (H j) = 0
      rw [hv, hH j (by omega), jor_0 rg_0])
  · unfold fdA
    rw [show (s + 1 - jmax 0 (s - h)).toNat = 0 by omega]
    rfl
theorem st64 {eh : Int → Int} {t : Int} (h1 : 0 ≤ t) (h2 : t < 12) (hh : ∀ s, 64 ≤ s → eh s = 0) : stN eh t 100 = stN eh t 64 := by
  unfold stN
  exact fdA_tail (a := 0) (b := 64) (by omega) 36 (fun j s j0 j1 => by
    show (if jand (jshr (eh j) t) 1 = 1 ∧ (j = 0 ∨ ¬ jand (jshr (eh (j - 1)) t) 1 = 1) then s + 1 else s) = s
    rw [hh j j0, bit_0 h1 h2, if_neg (fun h => absurd h.1 (by omega))])
theorem snd_sm {eh : Int → Int} (hST : ∀ s, 0 ≤ s → ST (eh s)) (hh : ∀ s, 64 ≤ s → eh s = 0) : sm (fun s => bitN (jand (eh s) (jxor (if s = 0 then 0 else eh (s - 1)) (-1)))) 64 = sndN eh := by
  have e1 : sm (fun s => bitN (jand (eh s) (jxor (if s = 0 then 0 else eh (s - 1)) (-1)))) ((64 : Nat) : Int) = sm (fun s => sm (fun t => if jand (jshr (eh s) t) 1 = 1 ∧ (s = 0 ∨ ¬ jand (jshr (eh (s - 1)) t) 1 = 1) then 1 else 0) ((12 : Nat) : Int)) ((64 : Nat) : Int) := by
    refine sm_congr (fun s s0 s1 => ?_)
    show sm (fun t => jand (jshr (jand (eh s) (jxor (if s = 0 then 0 else eh (s - 1)) (-1))) t) 1) ((12 : Nat) : Int) = _
    refine sm_congr (fun t t0 t1 => ?_)
    have hb : ST (if s = 0 then 0 else eh (s - 1)) := by
      by_cases c : s = 0
      · rw [if_pos c]; exact ST_0
      · rw [if_neg c]; exact hST _ (by omega)
    have h := bit_andn (hST s s0) hb t0 (show t < 12 by omega)
    refine bit_if h.1 t0 (by omega) (h.2.trans ?_)
    by_cases c : s = 0
    · rw [if_pos c, bit_0 t0 (show t < 12 by omega)]
      exact ⟨fun h => ⟨h.1, Or.inl c⟩, fun h => ⟨h.1, by omega⟩⟩
    · rw [if_neg c]
      exact ⟨fun h => ⟨h.1, Or.inr h.2⟩, fun h => ⟨h.1, h.2.resolve_left c⟩⟩
  have e2 := sm_swap (fun t s => if jand (jshr (eh s) t) 1 = 1 ∧ (s = 0 ∨ ¬ jand (jshr (eh (s - 1)) t) 1 = 1) then 1 else 0) 12 64
  have e3 : sndN eh = sm (fun t => sm (fun s => if jand (jshr (eh s) t) 1 = 1 ∧ (s = 0 ∨ ¬ jand (jshr (eh (s - 1)) t) 1 = 1) then 1 else 0) ((64 : Nat) : Int)) ((12 : Nat) : Int) := by
    show sm (fun t => stN eh t 100) 12 = _
    refine sm_congr (fun t t0 t1 => ?_)
    show stN eh t 100 = _
    rw [st64 t0 t1 hh]
    exact cnt_sm
  rw [e3, ← e2]
  exact e1
theorem bitN_0 : bitN 0 = 0 := by decide +kernel
theorem hol_sm {g : Int → Int} (hh : ∀ s, 64 ≤ s → g s = 0) : holN g = sm (fun s => bitN (g s)) 64 := by
  unfold holN sm
  exact fdA_tail (a := 0) (b := 64) (by omega) 36 (fun j s j0 j1 => by
    show s + bitN (g j) = s
    rw [hh j j0, bitN_0, Int.add_zero])
/-- the marks of a set taken off one by one -/
def pcN : Nat → Int → Int → Option Int
  | 0, _, _ => none
  | n + 1, a, v => if v = 0 then some a else pcN n (a + 1) (jand v (v - 1))
set_option maxRecDepth 20000 in
theorem pcN_all : ∀ a, a < 64 → ∀ b, b < 64 → pcN 13 0 (((64 * a + b : Nat) : Int)) = some (bitN ((64 * a + b : Nat) : Int)) := by decide +kernel
theorem pcN_shift : ∀ (n : Nat) (a v r b : Int), pcN n a v = some r → pcN n (a + b) v = some (r + b) := by
  intro n
  induction n with
  | zero => intro a v r b h; cases h
  | succ n ih =>
    intro a v r b h
    unfold pcN at h ⊢
    by_cases c : v = 0
    · rw [if_pos c] at h ⊢; cases h; rfl
    · rw [if_neg c] at h ⊢
      have := ih (a + 1) (jand v (v - 1)) r b h
      rw [show a + b + 1 = a + 1 + b by omega]
      exact this
theorem pcN_bit {v a : Int} (h : ST v) : pcN 13 a v = some (a + bitN v) := by
  obtain ⟨m, rfl⟩ : ∃ m : Nat, v = m := ⟨v.toNat, (Int.toNat_of_nonneg h.1).symm⟩
  have h1 := h.2
  have := pcN_all (m / 64) (by omega) (m % 64) (by omega)
  rw [show 64 * (m / 64) + m % 64 = m by omega] at this
  have h2 := pcN_shift 13 0 _ _ a this
  rw [Int.zero_add] at h2
  rw [h2, Int.add_comm]
theorem l_pc146 {fu : Nat} {K : Int → Option (Int × (Int → Int) × Int × (Int → Int) × (Int → Int))} : ∀ (n m : Nat) (a v r : Int), n ≤ m → rg v → pcN n a v = some r → f_L_same_L146 fu K m a v = K r := by
  intro n
  induction n with
  | zero => intro m a v r _ _ h; cases h
  | succ n ih =>
    intro m a v r hm hv h
    obtain ⟨m', rfl⟩ : ∃ q, m = q + 1 := ⟨m - 1, by omega⟩
    show f_L_same_L146_b fu K (f_L_same_L146 fu K m') a v = K r
    unfold f_L_same_L146_b
    unfold pcN at h
    rw [jck_rg hv rg_0]
    by_cases c : v = 0
    · rw [if_pos c] at h ⊢; cases h; rfl
    · rw [if_neg c] at h ⊢
      exact ih m' _ _ r (by omega) (rg_jand _ _) h
theorem l_pc170 {fu : Nat} {K : Int → Option (Int × (Int → Int) × Int × (Int → Int) × (Int → Int))} : ∀ (n m : Nat) (a v r : Int), n ≤ m → rg v → pcN n a v = some r → f_L_same_L170 fu K m a v = K r := by
  intro n
  induction n with
  | zero => intro m a v r _ _ h; cases h
  | succ n ih =>
    intro m a v r hm hv h
    obtain ⟨m', rfl⟩ : ∃ q, m = q + 1 := ⟨m - 1, by omega⟩
    show f_L_same_L170_b fu K (f_L_same_L170 fu K m') a v = K r
    unfold f_L_same_L170_b
    unfold pcN at h
    rw [jck_rg hv rg_0]
    by_cases c : v = 0
    · rw [if_pos c] at h ⊢; cases h; rfl
    · rw [if_neg c] at h ⊢
      exact ih m' _ _ r (by omega) (rg_jand _ _) h
theorem pc146 {fu : Nat} {K : Int → Option (Int × (Int → Int) × Int × (Int → Int) × (Int → Int))} {a v : Int} (h : ST v) (hf : 100 ≤ fu) : f_L_same_L146 fu K fu a v = K (a + bitN v) := l_pc146 13 fu a v _ (by omega) h.rg (pcN_bit h)
theorem pc170 {fu : Nat} {K : Int → Option (Int × (Int → Int) × Int × (Int → Int) × (Int → Int))} {a v : Int} (h : ST v) (hf : 100 ≤ fu) : f_L_same_L170 fu K fu a v = K (a + bitN v) := l_pc170 13 fu a v _ (by omega) h.rg (pcN_bit h)
