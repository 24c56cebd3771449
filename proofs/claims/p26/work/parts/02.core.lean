/-! ints of the machine as integers; partial functions that a walk follows; rows of the kit in these words -/
def jI (x : Int) : Int32 := Int32.ofInt x
def jA (f : Int → Int) : Nat → Int32 := fun k => jI (f (k : Int))
def uI {α : Type} (f : Int → α) (i : Int) (x : α) : Int → α := fun q => if q = i then x else f q
abbrev rg (x : Int) : Prop := -2147483648 ≤ x ∧ x < 2147483648
theorem jI_toInt {x : Int} (h : rg x) : (jI x).toInt = x := Int32.toInt_ofInt_of_le h.1 h.2
theorem jI_of (x : Int32) : jI x.toInt = x := Int32.ofInt_toInt x
theorem rg_of (x : Int32) : rg x.toInt := ⟨Int32.le_toInt x, Int32.toInt_lt x⟩
theorem jI_add (a b : Int) : jI a + jI b = jI (a + b) := (Int32.ofInt_add a b).symm
theorem jI_sub (a b : Int) : jI a - jI b = jI (a - b) := (Int32.ofInt_sub a b).symm
theorem jI_mul (a b : Int) : jI a * jI b = jI (a * b) := (Int32.ofInt_mul a b).symm
theorem jI_inj {a b : Int} (ha : rg a) (hb : rg b) : jI a = jI b ↔ a = b := by
  constructor
  · intro h
    have := congrArg Int32.toInt h
    rwa [jI_toInt ha, jI_toInt hb] at this
  · intro h; rw [h]
theorem jI_le {a b : Int} (ha : rg a) (hb : rg b) : jI a ≤ jI b ↔ a ≤ b := by rw [Int32.le_iff_toInt_le, jI_toInt ha, jI_toInt hb]
theorem jI_lt {a b : Int} (ha : rg a) (hb : rg b) : jI a < jI b ↔ a < b := by rw [Int32.lt_iff_toInt_lt, jI_toInt ha, jI_toInt hb]
theorem jI_nat {x : Int} (h0 : 0 ≤ x) (h1 : x < 2147483648) : (jI x).toNatClampNeg = x.toNat := by
  show (jI x).toInt.toNat = _
  rw [jI_toInt ⟨by omega, h1⟩]
theorem jI_in {x : Int} {n : Nat} (h0 : 0 ≤ x) (h1 : x < n) (hn : x < 2147483648) : vp_in (jI x) n := by
  rw [vp_in_iff, jI_toInt ⟨by omega, hn⟩]; exact ⟨h0, h1⟩
theorem jA_at (f : Int → Int) {x : Int} (h0 : 0 ≤ x) (h1 : x < 2147483648) : jA f (jI x).toNatClampNeg = jI (f x) := by
  rw [jI_nat h0 h1]; show jI (f ((x.toNat : Nat) : Int)) = _; rw [Int.toNat_of_nonneg h0]
theorem jA_set (f : Int → Int) {x : Int} (v : Int) (h0 : 0 ≤ x) (h1 : x < 2147483648) : upd (jA f) (jI x).toNatClampNeg (jI v) = jA (uI f x v) := by
  rw [jI_nat h0 h1]
  funext k
  show (if k = x.toNat then jI v else jI (f k)) = jI (if (k : Int) = x then v else f k)
  by_cases h : k = x.toNat
  · rw [if_pos h, if_pos (by omega)]
  · rw [if_neg h, if_neg (by omega)]
-- the partial functions
def jck {α : Type} (a b : Int) (X : Option α) : Option α := if rg a ∧ rg b then X else none
def jix {α : Type} (n i : Int) (X : Option α) : Option α := if 0 ≤ i ∧ i < n then X else none
def jbo {α : Type} (x : Int) (X : Option α) : Option α := if x = 0 ∨ x = 1 then X else none
def jch {α : Type} (x : Int) (X : Option α) : Option α := if 0 ≤ x ∧ x < 65536 then X else none
def jre {α : Type} (a b : Int) (X : Option α) : Option α := if 0 ≤ a ∧ a < 2147483648 ∧ 0 < b ∧ b < 2147483648 then X else none
def jj {α β : Type} (K : β → Option α) (F : (β → Option α) → Option α) : Option α := F K
def jb {α β : Type} (x : Option α) (k : α → Option β) : Option β := match x with
  | some a => k a
  | none => none
def jor (a b : Int) : Int := (jI a ||| jI b).toInt
def jand (a b : Int) : Int := (jI a &&& jI b).toInt
def jshl (a b : Int) : Int := (jI a <<< (jI b &&& 31)).toInt
def jshr (a b : Int) : Int := (jI a >>> (jI b &&& 31)).toInt
def jushr (a b : Int) : Int := ((jI a).toUInt32 >>> ((jI b).toUInt32 &&& Int32.toUInt32 31)).toInt32.toInt
def jxor (a b : Int) : Int := (jI a ^^^ jI b).toInt
def jmax (a b : Int) : Int := if a < b then b else a
def jmin (a b : Int) : Int := if b < a then b else a
theorem jck_i {α : Type} {a b : Int} {X : Option α} {r : α} (h : jck a b X = some r) : rg a ∧ rg b ∧ X = some r := by
  unfold jck at h
  by_cases c : rg a ∧ rg b
  · rw [if_pos c] at h; exact ⟨c.1, c.2, h⟩
  · rw [if_neg c] at h; cases h
theorem jix_i {α : Type} {n i : Int} {X : Option α} {r : α} (h : jix n i X = some r) : 0 ≤ i ∧ i < n ∧ X = some r := by
  unfold jix at h
  by_cases c : 0 ≤ i ∧ i < n
  · rw [if_pos c] at h; exact ⟨c.1, c.2, h⟩
  · rw [if_neg c] at h; cases h
theorem jbo_i {α : Type} {x : Int} {X : Option α} {r : α} (h : jbo x X = some r) : (x = 0 ∨ x = 1) ∧ X = some r := by
  unfold jbo at h
  by_cases c : x = 0 ∨ x = 1
  · rw [if_pos c] at h; exact ⟨c, h⟩
  · rw [if_neg c] at h; cases h
theorem jch_i {α : Type} {x : Int} {X : Option α} {r : α} (h : jch x X = some r) : (0 ≤ x ∧ x < 65536) ∧ X = some r := by
  unfold jch at h
  by_cases c : 0 ≤ x ∧ x < 65536
  · rw [if_pos c] at h; exact ⟨c, h⟩
  · rw [if_neg c] at h; cases h
theorem jre_i {α : Type} {a b : Int} {X : Option α} {r : α} (h : jre a b X = some r) : (0 ≤ a ∧ a < 2147483648 ∧ 0 < b ∧ b < 2147483648) ∧ X = some r := by
  unfold jre at h
  by_cases c : 0 ≤ a ∧ a < 2147483648 ∧ 0 < b ∧ b < 2147483648
  · rw [if_pos c] at h; exact ⟨c, h⟩
  · rw [if_neg c] at h; cases h
theorem jj_i {α β : Type} {K : β → Option α} {F : (β → Option α) → Option α} {r : α} (h : jj K F = some r) : ∃ k : β → Option α, (∀ v, k v = K v) ∧ F k = some r := ⟨K, fun _ => rfl, h⟩
theorem jb_i {α β : Type} {x : Option α} {k : α → Option β} {r : β} (h : jb x k = some r) : ∃ a, x = some a ∧ k a = some r := by
  cases x with
  | none => cases h
  | some a => exact ⟨a, rfl, h⟩
def jb2 {t1 t2 β : Type} (x : Option (t1 × t2)) (k : t1 → t2 → Option β) : Option β := match x with
  | some (a1, a2) => k a1 a2
  | none => none
theorem jb2_i {t1 t2 β : Type} {x : Option (t1 × t2)} {k : t1 → t2 → Option β} {r : β} (h : jb2 x k = some r) : ∃ a1 a2, x = some (a1, a2) ∧ k a1 a2 = some r := by
  cases x with
  | none => cases h
  | some q => obtain ⟨a1, a2⟩ := q; exact ⟨a1, a2, rfl, h⟩
def jb3 {t1 t2 t3 β : Type} (x : Option (t1 × t2 × t3)) (k : t1 → t2 → t3 → Option β) : Option β := match x with
  | some (a1, a2, a3) => k a1 a2 a3
  | none => none
theorem jb3_i {t1 t2 t3 β : Type} {x : Option (t1 × t2 × t3)} {k : t1 → t2 → t3 → Option β} {r : β} (h : jb3 x k = some r) : ∃ a1 a2 a3, x = some (a1, a2, a3) ∧ k a1 a2 a3 = some r := by
  cases x with
  | none => cases h
  | some q => obtain ⟨a1, a2, a3⟩ := q; exact ⟨a1, a2, a3, rfl, h⟩
def jb4 {t1 t2 t3 t4 β : Type} (x : Option (t1 × t2 × t3 × t4)) (k : t1 → t2 → t3 → t4 → Option β) : Option β := match x with
  | some (a1, a2, a3, a4) => k a1 a2 a3 a4
  | none => none
theorem jb4_i {t1 t2 t3 t4 β : Type} {x : Option (t1 × t2 × t3 × t4)} {k : t1 → t2 → t3 → t4 → Option β} {r : β} (h : jb4 x k = some r) : ∃ a1 a2 a3 a4, x = some (a1, a2, a3, a4) ∧ k a1 a2 a3 a4 = some r := by
  cases x with
  | none => cases h
  | some q => obtain ⟨a1, a2, a3, a4⟩ := q; exact ⟨a1, a2, a3, a4, rfl, h⟩
def jb5 {t1 t2 t3 t4 t5 β : Type} (x : Option (t1 × t2 × t3 × t4 × t5)) (k : t1 → t2 → t3 → t4 → t5 → Option β) : Option β := match x with
  | some (a1, a2, a3, a4, a5) => k a1 a2 a3 a4 a5
  | none => none
theorem jb5_i {t1 t2 t3 t4 t5 β : Type} {x : Option (t1 × t2 × t3 × t4 × t5)} {k : t1 → t2 → t3 → t4 → t5 → Option β} {r : β} (h : jb5 x k = some r) : ∃ a1 a2 a3 a4 a5, x = some (a1, a2, a3, a4, a5) ∧ k a1 a2 a3 a4 a5 = some r := by
  cases x with
  | none => cases h
  | some q => obtain ⟨a1, a2, a3, a4, a5⟩ := q; exact ⟨a1, a2, a3, a4, a5, rfl, h⟩
def jb6 {t1 t2 t3 t4 t5 t6 β : Type} (x : Option (t1 × t2 × t3 × t4 × t5 × t6)) (k : t1 → t2 → t3 → t4 → t5 → t6 → Option β) : Option β := match x with
  | some (a1, a2, a3, a4, a5, a6) => k a1 a2 a3 a4 a5 a6
  | none => none
theorem jb6_i {t1 t2 t3 t4 t5 t6 β : Type} {x : Option (t1 × t2 × t3 × t4 × t5 × t6)} {k : t1 → t2 → t3 → t4 → t5 → t6 → Option β} {r : β} (h : jb6 x k = some r) : ∃ a1 a2 a3 a4 a5 a6, x = some (a1, a2, a3, a4, a5, a6) ∧ k a1 a2 a3 a4 a5 a6 = some r := by
  cases x with
  | none => cases h
  | some q => obtain ⟨a1, a2, a3, a4, a5, a6⟩ := q; exact ⟨a1, a2, a3, a4, a5, a6, rfl, h⟩
def jb7 {t1 t2 t3 t4 t5 t6 t7 β : Type} (x : Option (t1 × t2 × t3 × t4 × t5 × t6 × t7)) (k : t1 → t2 → t3 → t4 → t5 → t6 → t7 → Option β) : Option β := match x with
  | some (a1, a2, a3, a4, a5, a6, a7) => k a1 a2 a3 a4 a5 a6 a7
  | none => none
theorem jb7_i {t1 t2 t3 t4 t5 t6 t7 β : Type} {x : Option (t1 × t2 × t3 × t4 × t5 × t6 × t7)} {k : t1 → t2 → t3 → t4 → t5 → t6 → t7 → Option β} {r : β} (h : jb7 x k = some r) : ∃ a1 a2 a3 a4 a5 a6 a7, x = some (a1, a2, a3, a4, a5, a6, a7) ∧ k a1 a2 a3 a4 a5 a6 a7 = some r := by
  cases x with
  | none => cases h
  | some q => obtain ⟨a1, a2, a3, a4, a5, a6, a7⟩ := q; exact ⟨a1, a2, a3, a4, a5, a6, a7, rfl, h⟩
def jb8 {t1 t2 t3 t4 t5 t6 t7 t8 β : Type} (x : Option (t1 × t2 × t3 × t4 × t5 × t6 × t7 × t8)) (k : t1 → t2 → t3 → t4 → t5 → t6 → t7 → t8 → Option β) : Option β := match x with
  | some (a1, a2, a3, a4, a5, a6, a7, a8) => k a1 a2 a3 a4 a5 a6 a7 a8
  | none => none
theorem jb8_i {t1 t2 t3 t4 t5 t6 t7 t8 β : Type} {x : Option (t1 × t2 × t3 × t4 × t5 × t6 × t7 × t8)} {k : t1 → t2 → t3 → t4 → t5 → t6 → t7 → t8 → Option β} {r : β} (h : jb8 x k = some r) : ∃ a1 a2 a3 a4 a5 a6 a7 a8, x = some (a1, a2, a3, a4, a5, a6, a7, a8) ∧ k a1 a2 a3 a4 a5 a6 a7 a8 = some r := by
  cases x with
  | none => cases h
  | some q => obtain ⟨a1, a2, a3, a4, a5, a6, a7, a8⟩ := q; exact ⟨a1, a2, a3, a4, a5, a6, a7, a8, rfl, h⟩
def jb9 {t1 t2 t3 t4 t5 t6 t7 t8 t9 β : Type} (x : Option (t1 × t2 × t3 × t4 × t5 × t6 × t7 × t8 × t9)) (k : t1 → t2 → t3 → t4 → t5 → t6 → t7 → t8 → t9 → Option β) : Option β := match x with
  | some (a1, a2, a3, a4, a5, a6, a7, a8, a9) => k a1 a2 a3 a4 a5 a6 a7 a8 a9
  | none => none
theorem jb9_i {t1 t2 t3 t4 t5 t6 t7 t8 t9 β : Type} {x : Option (t1 × t2 × t3 × t4 × t5 × t6 × t7 × t8 × t9)} {k : t1 → t2 → t3 → t4 → t5 → t6 → t7 → t8 → t9 → Option β} {r : β} (h : jb9 x k = some r) : ∃ a1 a2 a3 a4 a5 a6 a7 a8 a9, x = some (a1, a2, a3, a4, a5, a6, a7, a8, a9) ∧ k a1 a2 a3 a4 a5 a6 a7 a8 a9 = some r := by
  cases x with
  | none => cases h
  | some q => obtain ⟨a1, a2, a3, a4, a5, a6, a7, a8, a9⟩ := q; exact ⟨a1, a2, a3, a4, a5, a6, a7, a8, a9, rfl, h⟩
def jb10 {t1 t2 t3 t4 t5 t6 t7 t8 t9 t10 β : Type} (x : Option (t1 × t2 × t3 × t4 × t5 × t6 × t7 × t8 × t9 × t10)) (k : t1 → t2 → t3 → t4 → t5 → t6 → t7 → t8 → t9 → t10 → Option β) : Option β := match x with
  | some (a1, a2, a3, a4, a5, a6, a7, a8, a9, a10) => k a1 a2 a3 a4 a5 a6 a7 a8 a9 a10
  | none => none
theorem jb10_i {t1 t2 t3 t4 t5 t6 t7 t8 t9 t10 β : Type} {x : Option (t1 × t2 × t3 × t4 × t5 × t6 × t7 × t8 × t9 × t10)} {k : t1 → t2 → t3 → t4 → t5 → t6 → t7 → t8 → t9 → t10 → Option β} {r : β} (h : jb10 x k = some r) : ∃ a1 a2 a3 a4 a5 a6 a7 a8 a9 a10, x = some (a1, a2, a3, a4, a5, a6, a7, a8, a9, a10) ∧ k a1 a2 a3 a4 a5 a6 a7 a8 a9 a10 = some r := by
  cases x with
  | none => cases h
  | some q => obtain ⟨a1, a2, a3, a4, a5, a6, a7, a8, a9, a10⟩ := q; exact ⟨a1, a2, a3, a4, a5, a6, a7, a8, a9, a10, rfl, h⟩
def jb11 {t1 t2 t3 t4 t5 t6 t7 t8 t9 t10 t11 β : Type} (x : Option (t1 × t2 × t3 × t4 × t5 × t6 × t7 × t8 × t9 × t10 × t11)) (k : t1 → t2 → t3 → t4 → t5 → t6 → t7 → t8 → t9 → t10 → t11 → Option β) : Option β := match x with
  | some (a1, a2, a3, a4, a5, a6, a7, a8, a9, a10, a11) => k a1 a2 a3 a4 a5 a6 a7 a8 a9 a10 a11
  | none => none
theorem jb11_i {t1 t2 t3 t4 t5 t6 t7 t8 t9 t10 t11 β : Type} {x : Option (t1 × t2 × t3 × t4 × t5 × t6 × t7 × t8 × t9 × t10 × t11)} {k : t1 → t2 → t3 → t4 → t5 → t6 → t7 → t8 → t9 → t10 → t11 → Option β} {r : β} (h : jb11 x k = some r) : ∃ a1 a2 a3 a4 a5 a6 a7 a8 a9 a10 a11, x = some (a1, a2, a3, a4, a5, a6, a7, a8, a9, a10, a11) ∧ k a1 a2 a3 a4 a5 a6 a7 a8 a9 a10 a11 = some r := by
  cases x with
  | none => cases h
  | some q => obtain ⟨a1, a2, a3, a4, a5, a6, a7, a8, a9, a10, a11⟩ := q; exact ⟨a1, a2, a3, a4, a5, a6, a7, a8, a9, a10, a11, rfl, h⟩
def jb12 {t1 t2 t3 t4 t5 t6 t7 t8 t9 t10 t11 t12 β : Type} (x : Option (t1 × t2 × t3 × t4 × t5 × t6 × t7 × t8 × t9 × t10 × t11 × t12)) (k : t1 → t2 → t3 → t4 → t5 → t6 → t7 → t8 → t9 → t10 → t11 → t12 → Option β) : Option β := match x with
  | some (a1, a2, a3, a4, a5, a6, a7, a8, a9, a10, a11, a12) => k a1 a2 a3 a4 a5 a6 a7 a8 a9 a10 a11 a12
  | none => none
theorem jb12_i {t1 t2 t3 t4 t5 t6 t7 t8 t9 t10 t11 t12 β : Type} {x : Option (t1 × t2 × t3 × t4 × t5 × t6 × t7 × t8 × t9 × t10 × t11 × t12)} {k : t1 → t2 → t3 → t4 → t5 → t6 → t7 → t8 → t9 → t10 → t11 → t12 → Option β} {r : β} (h : jb12 x k = some r) : ∃ a1 a2 a3 a4 a5 a6 a7 a8 a9 a10 a11 a12, x = some (a1, a2, a3, a4, a5, a6, a7, a8, a9, a10, a11, a12) ∧ k a1 a2 a3 a4 a5 a6 a7 a8 a9 a10 a11 a12 = some r := by
  cases x with
  | none => cases h
  | some q => obtain ⟨a1, a2, a3, a4, a5, a6, a7, a8, a9, a10, a11, a12⟩ := q; exact ⟨a1, a2, a3, a4, a5, a6, a7, a8, a9, a10, a11, a12, rfl, h⟩
def jb13 {t1 t2 t3 t4 t5 t6 t7 t8 t9 t10 t11 t12 t13 β : Type} (x : Option (t1 × t2 × t3 × t4 × t5 × t6 × t7 × t8 × t9 × t10 × t11 × t12 × t13)) (k : t1 → t2 → t3 → t4 → t5 → t6 → t7 → t8 → t9 → t10 → t11 → t12 → t13 → Option β) : Option β := match x with
  | some (a1, a2, a3, a4, a5, a6, a7, a8, a9, a10, a11, a12, a13) => k a1 a2 a3 a4 a5 a6 a7 a8 a9 a10 a11 a12 a13
  | none => none
theorem jb13_i {t1 t2 t3 t4 t5 t6 t7 t8 t9 t10 t11 t12 t13 β : Type} {x : Option (t1 × t2 × t3 × t4 × t5 × t6 × t7 × t8 × t9 × t10 × t11 × t12 × t13)} {k : t1 → t2 → t3 → t4 → t5 → t6 → t7 → t8 → t9 → t10 → t11 → t12 → t13 → Option β} {r : β} (h : jb13 x k = some r) : ∃ a1 a2 a3 a4 a5 a6 a7 a8 a9 a10 a11 a12 a13, x = some (a1, a2, a3, a4, a5, a6, a7, a8, a9, a10, a11, a12, a13) ∧ k a1 a2 a3 a4 a5 a6 a7 a8 a9 a10 a11 a12 a13 = some r := by
  cases x with
  | none => cases h
  | some q => obtain ⟨a1, a2, a3, a4, a5, a6, a7, a8, a9, a10, a11, a12, a13⟩ := q; exact ⟨a1, a2, a3, a4, a5, a6, a7, a8, a9, a10, a11, a12, a13, rfl, h⟩
def jb14 {t1 t2 t3 t4 t5 t6 t7 t8 t9 t10 t11 t12 t13 t14 β : Type} (x : Option (t1 × t2 × t3 × t4 × t5 × t6 × t7 × t8 × t9 × t10 × t11 × t12 × t13 × t14)) (k : t1 → t2 → t3 → t4 → t5 → t6 → t7 → t8 → t9 → t10 → t11 → t12 → t13 → t14 → Option β) : Option β := match x with
  | some (a1, a2, a3, a4, a5, a6, a7, a8, a9, a10, a11, a12, a13, a14) => k a1 a2 a3 a4 a5 a6 a7 a8 a9 a10 a11 a12 a13 a14
  | none => none
theorem jb14_i {t1 t2 t3 t4 t5 t6 t7 t8 t9 t10 t11 t12 t13 t14 β : Type} {x : Option (t1 × t2 × t3 × t4 × t5 × t6 × t7 × t8 × t9 × t10 × t11 × t12 × t13 × t14)} {k : t1 → t2 → t3 → t4 → t5 → t6 → t7 → t8 → t9 → t10 → t11 → t12 → t13 → t14 → Option β} {r : β} (h : jb14 x k = some r) : ∃ a1 a2 a3 a4 a5 a6 a7 a8 a9 a10 a11 a12 a13 a14, x = some (a1, a2, a3, a4, a5, a6, a7, a8, a9, a10, a11, a12, a13, a14) ∧ k a1 a2 a3 a4 a5 a6 a7 a8 a9 a10 a11 a12 a13 a14 = some r := by
  cases x with
  | none => cases h
  | some q => obtain ⟨a1, a2, a3, a4, a5, a6, a7, a8, a9, a10, a11, a12, a13, a14⟩ := q; exact ⟨a1, a2, a3, a4, a5, a6, a7, a8, a9, a10, a11, a12, a13, a14, rfl, h⟩
def jb15 {t1 t2 t3 t4 t5 t6 t7 t8 t9 t10 t11 t12 t13 t14 t15 β : Type} (x : Option (t1 × t2 × t3 × t4 × t5 × t6 × t7 × t8 × t9 × t10 × t11 × t12 × t13 × t14 × t15)) (k : t1 → t2 → t3 → t4 → t5 → t6 → t7 → t8 → t9 → t10 → t11 → t12 → t13 → t14 → t15 → Option β) : Option β := match x with
  | some (a1, a2, a3, a4, a5, a6, a7, a8, a9, a10, a11, a12, a13, a14, a15) => k a1 a2 a3 a4 a5 a6 a7 a8 a9 a10 a11 a12 a13 a14 a15
  | none => none
theorem jb15_i {t1 t2 t3 t4 t5 t6 t7 t8 t9 t10 t11 t12 t13 t14 t15 β : Type} {x : Option (t1 × t2 × t3 × t4 × t5 × t6 × t7 × t8 × t9 × t10 × t11 × t12 × t13 × t14 × t15)} {k : t1 → t2 → t3 → t4 → t5 → t6 → t7 → t8 → t9 → t10 → t11 → t12 → t13 → t14 → t15 → Option β} {r : β} (h : jb15 x k = some r) : ∃ a1 a2 a3 a4 a5 a6 a7 a8 a9 a10 a11 a12 a13 a14 a15, x = some (a1, a2, a3, a4, a5, a6, a7, a8, a9, a10, a11, a12, a13, a14, a15) ∧ k a1 a2 a3 a4 a5 a6 a7 a8 a9 a10 a11 a12 a13 a14 a15 = some r := by
  cases x with
  | none => cases h
  | some q => obtain ⟨a1, a2, a3, a4, a5, a6, a7, a8, a9, a10, a11, a12, a13, a14, a15⟩ := q; exact ⟨a1, a2, a3, a4, a5, a6, a7, a8, a9, a10, a11, a12, a13, a14, a15, rfl, h⟩
def jb16 {t1 t2 t3 t4 t5 t6 t7 t8 t9 t10 t11 t12 t13 t14 t15 t16 β : Type} (x : Option (t1 × t2 × t3 × t4 × t5 × t6 × t7 × t8 × t9 × t10 × t11 × t12 × t13 × t14 × t15 × t16)) (k : t1 → t2 → t3 → t4 → t5 → t6 → t7 → t8 → t9 → t10 → t11 → t12 → t13 → t14 → t15 → t16 → Option β) : Option β := match x with
  | some (a1, a2, a3, a4, a5, a6, a7, a8, a9, a10, a11, a12, a13, a14, a15, a16) => k a1 a2 a3 a4 a5 a6 a7 a8 a9 a10 a11 a12 a13 a14 a15 a16
  | none => none
theorem jb16_i {t1 t2 t3 t4 t5 t6 t7 t8 t9 t10 t11 t12 t13 t14 t15 t16 β : Type} {x : Option (t1 × t2 × t3 × t4 × t5 × t6 × t7 × t8 × t9 × t10 × t11 × t12 × t13 × t14 × t15 × t16)} {k : t1 → t2 → t3 → t4 → t5 → t6 → t7 → t8 → t9 → t10 → t11 → t12 → t13 → t14 → t15 → t16 → Option β} {r : β} (h : jb16 x k = some r) : ∃ a1 a2 a3 a4 a5 a6 a7 a8 a9 a10 a11 a12 a13 a14 a15 a16, x = some (a1, a2, a3, a4, a5, a6, a7, a8, a9, a10, a11, a12, a13, a14, a15, a16) ∧ k a1 a2 a3 a4 a5 a6 a7 a8 a9 a10 a11 a12 a13 a14 a15 a16 = some r := by
  cases x with
  | none => cases h
  | some q => obtain ⟨a1, a2, a3, a4, a5, a6, a7, a8, a9, a10, a11, a12, a13, a14, a15, a16⟩ := q; exact ⟨a1, a2, a3, a4, a5, a6, a7, a8, a9, a10, a11, a12, a13, a14, a15, a16, rfl, h⟩
def jb17 {t1 t2 t3 t4 t5 t6 t7 t8 t9 t10 t11 t12 t13 t14 t15 t16 t17 β : Type} (x : Option (t1 × t2 × t3 × t4 × t5 × t6 × t7 × t8 × t9 × t10 × t11 × t12 × t13 × t14 × t15 × t16 × t17)) (k : t1 → t2 → t3 → t4 → t5 → t6 → t7 → t8 → t9 → t10 → t11 → t12 → t13 → t14 → t15 → t16 → t17 → Option β) : Option β := match x with
  | some (a1, a2, a3, a4, a5, a6, a7, a8, a9, a10, a11, a12, a13, a14, a15, a16, a17) => k a1 a2 a3 a4 a5 a6 a7 a8 a9 a10 a11 a12 a13 a14 a15 a16 a17
  | none => none
theorem jb17_i {t1 t2 t3 t4 t5 t6 t7 t8 t9 t10 t11 t12 t13 t14 t15 t16 t17 β : Type} {x : Option (t1 × t2 × t3 × t4 × t5 × t6 × t7 × t8 × t9 × t10 × t11 × t12 × t13 × t14 × t15 × t16 × t17)} {k : t1 → t2 → t3 → t4 → t5 → t6 → t7 → t8 → t9 → t10 → t11 → t12 → t13 → t14 → t15 → t16 → t17 → Option β} {r : β} (h : jb17 x k = some r) : ∃ a1 a2 a3 a4 a5 a6 a7 a8 a9 a10 a11 a12 a13 a14 a15 a16 a17, x = some (a1, a2, a3, a4, a5, a6, a7, a8, a9, a10, a11, a12, a13, a14, a15, a16, a17) ∧ k a1 a2 a3 a4 a5 a6 a7 a8 a9 a10 a11 a12 a13 a14 a15 a16 a17 = some r := by
  cases x with
  | none => cases h
  | some q => obtain ⟨a1, a2, a3, a4, a5, a6, a7, a8, a9, a10, a11, a12, a13, a14, a15, a16, a17⟩ := q; exact ⟨a1, a2, a3, a4, a5, a6, a7, a8, a9, a10, a11, a12, a13, a14, a15, a16, a17, rfl, h⟩
def jb18 {t1 t2 t3 t4 t5 t6 t7 t8 t9 t10 t11 t12 t13 t14 t15 t16 t17 t18 β : Type} (x : Option (t1 × t2 × t3 × t4 × t5 × t6 × t7 × t8 × t9 × t10 × t11 × t12 × t13 × t14 × t15 × t16 × t17 × t18)) (k : t1 → t2 → t3 → t4 → t5 → t6 → t7 → t8 → t9 → t10 → t11 → t12 → t13 → t14 → t15 → t16 → t17 → t18 → Option β) : Option β := match x with
  | some (a1, a2, a3, a4, a5, a6, a7, a8, a9, a10, a11, a12, a13, a14, a15, a16, a17, a18) => k a1 a2 a3 a4 a5 a6 a7 a8 a9 a10 a11 a12 a13 a14 a15 a16 a17 a18
  | none => none
theorem jb18_i {t1 t2 t3 t4 t5 t6 t7 t8 t9 t10 t11 t12 t13 t14 t15 t16 t17 t18 β : Type} {x : Option (t1 × t2 × t3 × t4 × t5 × t6 × t7 × t8 × t9 × t10 × t11 × t12 × t13 × t14 × t15 × t16 × t17 × t18)} {k : t1 → t2 → t3 → t4 → t5 → t6 → t7 → t8 → t9 → t10 → t11 → t12 → t13 → t14 → t15 → t16 → t17 → t18 → Option β} {r : β} (h : jb18 x k = some r) : ∃ a1 a2 a3 a4 a5 a6 a7 a8 a9 a10 a11 a12 a13 a14 a15 a16 a17 a18, x = some (a1, a2, a3, a4, a5, a6, a7, a8, a9, a10, a11, a12, a13, a14, a15, a16, a17, a18) ∧ k a1 a2 a3 a4 a5 a6 a7 a8 a9 a10 a11 a12 a13 a14 a15 a16 a17 a18 = some r := by
  cases x with
  | none => cases h
  | some q => obtain ⟨a1, a2, a3, a4, a5, a6, a7, a8, a9, a10, a11, a12, a13, a14, a15, a16, a17, a18⟩ := q; exact ⟨a1, a2, a3, a4, a5, a6, a7, a8, a9, a10, a11, a12, a13, a14, a15, a16, a17, a18, rfl, h⟩
-- what the walks of our methods have of the tables, and of the static rows that nobody writes
def jT (y : Nat → ClassId) : List (ClassId × FieldType) := [(y 0, .int), (y 1, .boolean), (y 2, .char), (y 3, .object RX3)]
def jNW (U : State) : Prop := va_Nw (.methodLinkNest "MusicHoles" 21 yX2_init "MusicHoles") U ∧ va_Nw (.methodLinkNest "MusicHoles" 28 yX1_init "MusicHoles") U ∧ va_Nw (.methodLinkNest "MusicHoles$Paper" 63 yX4_isTrack "MusicHoles") U ∧ va_Nw (.methodLinkNest "MusicHoles$Paper" 66 yX4_isStep "MusicHoles") U ∧ va_Nw (.methodLinkNest "MusicHoles$Roll" 48 yX4_isIn "MusicHoles") U
theorem jNW.warm {s U : State} (hW : s.WarmedH U.vm) (h : jNW s) : jNW U := ⟨h.1.warmM hW, h.2.1.warmM hW, h.2.2.1.warmM hW, h.2.2.2.1.warmM hW, h.2.2.2.2.warmM hW⟩
theorem jNW.same {u U : State} (hv : u.vm = U.vm) (h : jNW u) : jNW U := ⟨h.1.same rfl hv, h.2.1.same rfl hv, h.2.2.1.same rfl hv, h.2.2.2.1.same rfl hv, h.2.2.2.2.same rfl hv⟩
def jL (k : Nat) : Int := match k with
  | 0 => 1
  | 1 => 1
  | 2 => 0
  | _ => 2
def jG (k : Nat) : Int := match k with
  | 0 => 9
  | 1 => 4
  | 2 => 4
  | _ => 12
def jF (k : Nat) : Int := match k with
  | 0 => 3
  | 1 => 1
  | 2 => 1
  | _ => 4
def jST (z : Nat → Nat) (A : Nat → Prop) (U : State) (H : Heap) : Prop :=
  (va_Z "MusicHoles" "LEAST" "[I" (.ref (z 0)) A U H ∧ va_T .int (z 0) 4 (fun k => .int (jI (jL k))) A U H) ∧
  (va_Z "MusicHoles" "GREATEST" "[I" (.ref (z 1)) A U H ∧ va_T .int (z 1) 4 (fun k => .int (jI (jG k))) A U H) ∧
  (va_Z "MusicHoles" "AT_FIRST" "[I" (.ref (z 2)) A U H ∧ va_X (z 2) 4 (fun k => jI (jF k)) U H ∧ ¬ A (z 2))
theorem jST.moved {z : Nat → Nat} {A : Nat → Prop} {u U : State} {H : Heap} (hvm : u.vm.Alike U.vm) (h : jST z A u H) : jST z A U H := ⟨⟨h.1.1.moved hvm, h.1.2.moved hvm⟩, ⟨h.2.1.1.moved hvm, h.2.1.2.moved hvm⟩, ⟨h.2.2.1.moved hvm, h.2.2.2.1.moved hvm, h.2.2.2.2⟩⟩
theorem jST.kept {z : Nat → Nat} {A : Nat → Prop} {U : State} {H H1 : Heap} (h : jST z A U H) (hq : ∀ a : Nat, a < H.size → ¬ A a → H1[a]? = H[a]?) : jST z A U H1 := ⟨⟨h.1.1.kept hq, h.1.2.kept hq⟩, ⟨h.2.1.1.kept hq, h.2.1.2.kept hq⟩, ⟨h.2.2.1.kept hq, h.2.2.2.1.kept (hq _ (by obtain ⟨scr, h1, -⟩ := h.2.2.2.1; exact (Array.getElem?_eq_some_iff.mp h1).1) h.2.2.2.2), h.2.2.2.2⟩⟩
theorem jST.narrow {z : Nat → Nat} {A B : Nat → Prop} {U : State} {H : Heap} (h : jST z A U H) (hAB : ∀ q, B q → A q) : jST z B U H := ⟨⟨h.1.1.narrow hAB, h.1.2.narrow hAB⟩, ⟨h.2.1.1.narrow hAB, h.2.1.2.narrow hAB⟩, ⟨h.2.2.1.narrow hAB, h.2.2.2.1, fun q => h.2.2.2.2 (hAB _ q)⟩⟩
def jM (D : va_G) (y : Nat → ClassId) (z : Nat → Nat) (A : Nat → Prop) (U : State) : Prop := va_K D vwCl (jT y) U ∧ jNW U ∧ jST z A U U.heap
theorem jM.calling {D : va_G} {y : Nat → ClassId} {z : Nat → Nat} {A : Nat → Prop} {U : State} {g : JFrame} {mk : MethodId} {a : Array Value} (h : jM D y z A U) : jM D y z A (U.calling g mk a) :=
  ⟨va_K.moved (u := U) (U := U.calling g mk a) (Vm.Alike.refl U.vm) h.1, jNW.same (u := U) (U := U.calling g mk a) rfl h.2.1, jST.moved (u := U) (U := U.calling g mk a) (Vm.Alike.refl U.vm) h.2.2⟩
theorem jM.there {D : va_G} {y : Nat → ClassId} {z : Nat → Nat} {A B : Nat → Prop} {s U : State} {H : Heap} {locs : List Loc} (h : jM D y z A s) (hS : va_S A s.heap H locs) (hAB : ∀ q, B q → A q) (hU : U.heap = H) (hW : s.WarmedH U.vm) : jM D y z B U := by
  refine ⟨va_K.moved hW.alike h.1, jNW.warm hW h.2.1, ?_⟩
  rw [hU]
  exact jST.moved hW.alike ((h.2.2.kept (fun a h1 h2 => hS.2.1 a h1 h2)).narrow hAB)
-- worlds in chunks
theorem jch_sub {D : va_G} {cl : List vw_C} {cs cc : List va_W} {H : Heap} (h : va_P D cl cs.flatten H) (is : List Nat) (hs : is.map (fun i => cs[i]?) = cc.map some) : va_P D cl cc.flatten H := by
  intro k q hk
  obtain ⟨w, hw, hq⟩ := List.mem_flatten.mp (List.mem_of_getElem? hk)
  obtain ⟨j, hj⟩ := List.getElem?_of_mem hw
  have h1 : (is.map (fun i => cs[i]?))[j]? = some (some w) := by rw [hs, List.getElem?_map, hj]; rfl
  rw [List.getElem?_map] at h1
  cases hi : is[j]? with
  | none => rw [hi] at h1; cases h1
  | some i =>
    rw [hi] at h1
    have h2 : cs[i]? = some w := Option.some.inj h1
    obtain ⟨n, hn⟩ := List.getElem?_of_mem (List.mem_flatten.mpr ⟨w, List.mem_of_getElem? h2, hq⟩)
    exact h n q hn
theorem jD_iff {A : Nat → Prop} {ws : va_W} : va_D A ws ↔ (ws.map (·.1)).Nodup ∧ ∀ q ∈ ws, A q.1 := by
  constructor
  · intro h
    refine ⟨?_, fun q hq => ?_⟩
    · show List.Pairwise (· ≠ ·) (ws.map (·.1))
      rw [List.pairwise_iff_getElem]
      intro i j hi hj hij he
      have hi2 : i < ws.length := by rw [List.length_map] at hi; exact hi
      have hj2 : j < ws.length := by rw [List.length_map] at hj; exact hj
      rw [List.getElem_map, List.getElem_map] at he
      have := h.1 i j _ _ (List.getElem?_eq_getElem hi2) (List.getElem?_eq_getElem hj2) he
      omega
    · obtain ⟨k, hk⟩ := List.getElem?_of_mem hq
      exact h.2 k q hk
  · intro h
    refine ⟨fun i j p q hi hj he => ?_, fun k q hk => h.2 q (List.mem_of_getElem? hk)⟩
    have hp : ∀ (i j : Nat) (p q : Nat × va_E), ws[i]? = some p → ws[j]? = some q → p.1 = q.1 → ¬ i < j := by
      intro i j p q hi hj he hij
      obtain ⟨hi2, hi3⟩ := List.getElem?_eq_some_iff.mp hi
      obtain ⟨hj2, hj3⟩ := List.getElem?_eq_some_iff.mp hj
      have h0 : List.Pairwise (· ≠ ·) (ws.map (·.1)) := h.1
      have h1 := List.pairwise_iff_getElem.mp h0 i j (by rw [List.length_map]; exact hi2) (by rw [List.length_map]; exact hj2) hij
      apply h1
      rw [List.getElem_map, List.getElem_map, hi3, hj3]
      exact he
    have a1 := hp i j p q hi hj he
    have a2 := hp j i q p hj hi he.symm
    omega
theorem jD_perm {A : Nat → Prop} {w1 w2 : va_W} (hp : w1.Perm w2) (h : va_D A w1) : va_D A w2 := by
  rw [jD_iff] at h ⊢
  exact ⟨((hp.map (·.1)).nodup_iff).mp h.1, fun q hq => h.2 q (hp.mem_iff.mpr hq)⟩
def jpick (cs : List va_W) (is : List Nat) : List va_W := is.filterMap (fun i => cs[i]?)
theorem jpick_all (cs : List va_W) : jpick cs (List.range cs.length) = cs := by
  unfold jpick
  have e : ∀ (l : List va_W) (d : List va_W), (List.range' d.length l.length).filterMap (fun i => (d ++ l)[i]?) = l := by
    intro l
    induction l with
    | nil => intro d; rfl
    | cons a t ih =>
      intro d
      have h0 : (d ++ a :: t)[d.length]? = some a := by simp
      have h1 := ih (d ++ [a])
      rw [List.length_cons, List.range'_succ, List.filterMap_cons, h0]
      simp only [List.append_assoc, List.singleton_append, List.length_append, List.length_cons, List.length_nil] at h1
      rw [show d.length + 1 = d.length + (0 + 1) by omega, h1]
  have := e cs []
  rw [List.range_eq_range']
  exact this
theorem jperm {cs c2 : List va_W} (n : Nat) (is : List Nat) (hn : cs.length = n) (h : (List.range n).Perm is) (h2 : jpick cs is = c2) : cs.Perm c2 := by
  subst hn
  have h3 := h.filterMap (fun i => cs[i]?)
  have e := jpick_all cs
  unfold jpick at e h2
  rw [e, h2] at h3
  exact h3
theorem jP_perm {D : va_G} {cl : List vw_C} {c1 c2 : List va_W} {H : Heap} (hp : c1.Perm c2) (h : va_P D cl c1.flatten H) : va_P D cl c2.flatten H := by
  intro k q hk
  obtain ⟨n, hn⟩ := List.getElem?_of_mem (hp.flatten.mem_iff.mpr (List.mem_of_getElem? hk))
  exact h n q hn
theorem jch_join {A0 : Nat → Prop} {D : va_G} {cl : List vw_C} {wr cc c1 : va_W} {H H1 : Heap} (hP : va_P D cl (wr ++ cc) H) (hD : va_D A0 (wr ++ cc))
    (hk : ∀ q : Nat, q < H.size → ¬ va_A cc H.size q → H1[q]? = H[q]?) (hF : ∀ q, va_A cc H.size q → A0 q) (hP1 : va_P D cl c1 H1) (hD1 : va_D (va_A cc H.size) c1) : va_P D cl (wr ++ c1) H1 ∧ va_D A0 (wr ++ c1) := by
  rw [jD_iff] at hD hD1 ⊢
  rw [List.map_append, List.nodup_append] at hD
  obtain ⟨⟨n1, n2, n3⟩, hA⟩ := hD
  have hlt : ∀ q ∈ wr, q.1 < H.size := fun q hq => by
    obtain ⟨k, hk⟩ := List.getElem?_of_mem (List.mem_append_left cc hq)
    exact (hP k q hk).lt
  have hnot : ∀ q ∈ wr, ¬ va_A cc H.size q.1 := fun q hq h => by
    rcases h with ⟨k, e, h⟩ | h
    · exact n3 q.1 (List.mem_map.mpr ⟨q, hq, rfl⟩) q.1 (List.mem_map.mpr ⟨(q.1, e), List.mem_of_getElem? h, rfl⟩) rfl
    · exact absurd (hlt q hq) (by omega)
  refine ⟨va_P.app (fun k q hq => ?_) hP1, ?_, ?_⟩
  · obtain ⟨j, hj⟩ := List.getElem?_of_mem (List.mem_append_left cc (List.mem_of_getElem? hq))
    exact (hP j q hj).kept (hk q.1 (hlt q (List.mem_of_getElem? hq)) (hnot q (List.mem_of_getElem? hq)))
  · rw [List.map_append, List.nodup_append]
    refine ⟨n1, hD1.1, fun a ha b hb he => ?_⟩
    obtain ⟨q, hq, rfl⟩ := List.mem_map.mp ha
    obtain ⟨r, hr, rfl⟩ := List.mem_map.mp hb
    exact hnot q hq (by rw [he]; exact hD1.2 r hr)
  · intro q hq
    rcases List.mem_append.mp hq with h | h
    · exact hA q (List.mem_append_left cc h)
    · exact hF q.1 (hD1.2 q h)
-- contracts: what a method of ours is, over a world of chunks
def jPre (D : va_G) (y : Nat → ClassId) (z : Nat → Nat) (sz : Nat) (cs : List va_W) (U : State) : Prop := U.heap.size = sz ∧ va_P D vwCl cs.flatten U.heap ∧ va_D (fun _ => True) cs.flatten ∧ jM D y z (va_A cs.flatten sz) U
def jB (D : va_G) (A : Nat → Prop) (cs : List va_W) (_ : Unit) (t : State) : Prop := va_P D vwCl cs.flatten t.heap ∧ va_D A cs.flatten
def jCI (l : Launch) (D : va_G) (y : Nat → ClassId) (z : Nat → Nat) (ym : MethodName) (ws : List Cond) (rm : Room) (av : List Value) (cs cs' : List va_W) (r : Int) : Prop :=
  ∀ sz : Nat, Met l ym ws rm (va_Pc av (jPre D y z sz cs)) (va_Qi (fun v (_ : Unit) => v = jI r) (jB D (va_A cs.flatten sz) cs') (va_A cs.flatten sz)) 0 0 (va_A cs.flatten sz)
def jCV (l : Launch) (D : va_G) (y : Nat → ClassId) (z : Nat → Nat) (ym : MethodName) (ws : List Cond) (rm : Room) (av : List Value) (cs cs' : List va_W) : Prop :=
  ∀ sz : Nat, Met l ym ws rm (va_Pc av (jPre D y z sz cs)) (va_Qv (fun (_ : Unit) => True) (jB D (va_A cs.flatten sz) cs') (va_A cs.flatten sz)) 0 0 (va_A cs.flatten sz)
theorem jblind (av : List Value) (D : va_G) (y : Nat → ClassId) (z : Nat → Nat) (sz : Nat) (cs : List va_W) : FrameBlind (va_Pc av (jPre D y z sz cs)) := fun _ _ _ _ q => ⟨q.1, q.2.1, q.2.2.1, q.2.2.2.1, q.2.2.2.2.calling⟩
theorem jmet {l : Launch} {D : va_G} {y : Nat → ClassId} {z : Nat → Nat} {ym : MethodName} {ws ws' : List Cond} {rm : Room} {av : List Value} {cs : List va_W} {Qc : (Nat → Prop) → Array Value → State → Outcome → State → Prop} {cc : ByteArray} {maxL mc ms sz : Nat} {ret : Option FieldType}
    (hy : plainName ym.cls = true) (hw : ws = Cond.code ym cc maxL ret :: ws') (hsl : (lg_sl av).length ≤ maxL) {own : String} (hcls : ym.cls = own)
    (body : ∀ (p : Program) (e : Env) (s : State) (m : MethodId) (R : Room) (args : Array Value) (below : List Frame) (meth : Method) (c : Code) (A : Nat → Prop) (ls : Array Slot), R = rm → args = av.toArray → p.tables.exec = Jvm.exec → c.code = cc → meth.sig.returnType = ret → meth.locks = false → c.maxLocals = maxL → s.vm.findClass own = some m.cls → (∀ w ∈ ws, w.before args s = true) → meth.name = ym.name →
      s.heap.size = sz → va_P D vwCl cs.flatten s.heap → va_D A cs.flatten → (∀ q, s.heap.size ≤ q → A q) → jM D y z A s → lv_has ls maxL (lv_args 0 av) →
      W p l e R s m args below meth c s.heap [] 0 0 (MQ below (Qc A) args s mc ms A) (F0 m 0 ls [])) :
    Met l ym ws rm (va_Pc av (jPre D y z sz cs)) (Qc (va_A cs.flatten sz)) mc ms (va_A cs.flatten sz) := by
  refine Met.ofW (cc := cc) (maxL := maxL) (ret := ret) hy hw ?_
  intro p e s m args below meth c s₁ B hml hv
  obtain ⟨rfl, hsz, hP, hD, hM⟩ := hv
  have hl := lv_entry av (n := maxL) hsl
  rw [lg_entry_eq]
  generalize (lg_sl av ++ List.replicate (maxL - (lg_sl av).length) Slot.unset).toArray = ls at hl ⊢
  exact body p e s m rm av.toArray below meth c (va_A cs.flatten sz) ls rfl rfl B.exec B.bytes B.returns B.notSynchronized hml (by rw [← hcls]; exact findClass_of_methodNamed B.named) (atoms_spec (ws := ws) B.pre) (name_of_methodNamed B.named B.method).1 hsz hP hD.self (fun q h => Or.inr (by rw [← hsz]; exact h)) hM hl
section JX
variable {p : Program} {l : Launch} {e : Env} {R : Room} {s : State} {m : MethodId} {args : Array Value} {below : List Frame} {meth : Method} {c : Code} {H : Heap} {locs : List Loc} {cells slots : Nat} {Q : State → Prop}
variable {cc : ByteArray} {pc : Nat} {ls : Array Slot} {rest : List Value} {D : va_G} {y : Nat → ClassId} {z : Nat → Nat} {A : Nat → Prop} {a : Nat} {ws : va_W}
theorem jend_i {own : List va_W} {r : Int} (hx : p.tables.exec = Jvm.exec) (hb : c.code = cc) (hr : meth.sig.returnType = some .int) (hlocks : meth.locks = false) (hP : va_P D vwCl own.flatten H) (hD : va_D A own.flatten) (hS : va_S A s.heap H locs) (hdg : decode cc pc = .ok (.ireturn, 1)) :
    W p l e R s m args below meth c H locs 0 0 (MQ below (va_Qi (fun v (_ : Unit) => v = jI r) (jB D A own) A) args s 0 0 A) (F0 m pc ls [.int (jI r)]) :=
  W.iret hx hb hr (fun t ht _ => ⟨⟨jI r, (), rfl, rfl, by rw [ht]; exact hP, hD⟩, hS.F ht⟩) hS.2.2 hdg
theorem jend_z {own : List va_W} {r : Int} (hx : p.tables.exec = Jvm.exec) (hb : c.code = cc) (hr : meth.sig.returnType = some .boolean) (hlocks : meth.locks = false) (h : r = 0 ∨ r = 1) (hP : va_P D vwCl own.flatten H) (hD : va_D A own.flatten) (hS : va_S A s.heap H locs) (hdg : decode cc pc = .ok (.ireturn, 1)) :
    W p l e R s m args below meth c H locs 0 0 (MQ below (va_Qi (fun v (_ : Unit) => v = jI r) (jB D A own) A) args s 0 0 A) (F0 m pc ls [.int (jI r)]) :=
  W.zret hx hb hr (by rcases h with h | h <;> subst h <;> rfl) (fun t ht _ => ⟨⟨jI r, (), rfl, rfl, by rw [ht]; exact hP, hD⟩, hS.F ht⟩) hS.2.2 hdg
theorem jchar {r : Int} (h : 0 ≤ r ∧ r < 65536) : ∃ q : Nat, q < 65536 ∧ jI r = nI q := ⟨r.toNat, by omega, by
  show Int32.ofInt r = Int32.ofNat r.toNat
  rw [show (Int32.ofNat r.toNat) = Int32.ofInt (r.toNat : Int) from rfl, Int.toNat_of_nonneg h.1]⟩
theorem jend_c {own : List va_W} {r : Int} (hx : p.tables.exec = Jvm.exec) (hb : c.code = cc) (hr : meth.sig.returnType = some .char) (hlocks : meth.locks = false) (h : 0 ≤ r ∧ r < 65536) (hP : va_P D vwCl own.flatten H) (hD : va_D A own.flatten) (hS : va_S A s.heap H locs) (hdg : decode cc pc = .ok (.ireturn, 1)) :
    W p l e R s m args below meth c H locs 0 0 (MQ below (va_Qi (fun v (_ : Unit) => v = jI r) (jB D A own) A) args s 0 0 A) (F0 m pc ls [.int (jI r)]) :=
  W.zret hx hb hr (by obtain ⟨q, h1, h2⟩ := jchar h; rw [h2]; exact (pk_charN h1).1) (fun t ht _ => ⟨⟨jI r, (), rfl, rfl, by rw [ht]; exact hP, hD⟩, hS.F ht⟩) hS.2.2 hdg
theorem jend_v {own : List va_W} (hx : p.tables.exec = Jvm.exec) (hb : c.code = cc) (hr : meth.sig.returnType = none) (hlocks : meth.locks = false) (hP : va_P D vwCl own.flatten H) (hD : va_D A own.flatten) (hS : va_S A s.heap H locs) (hdg : decode cc pc = .ok (.return_, 1)) :
    W p l e R s m args below meth c H locs 0 0 (MQ below (va_Qv (fun (_ : Unit) => True) (jB D A own) A) args s 0 0 A) (F0 m pc ls []) :=
  W.vret hx hb hr (fun t ht _ => ⟨⟨(), rfl, trivial, by rw [ht]; exact hP, hD⟩, hS.F ht⟩) hS.2.2 hdg
-- arithmetic
theorem jx_iadd (hx : p.tables.exec = Jvm.exec) (hb : c.code = cc) {u v : Int} (hdg : decode cc pc = .ok (.iadd, 1)) (k : W p l e R s m args below meth c H locs cells slots Q (F0 m (pc + 1) ls (.int (jI (u + v)) :: rest))) : W p l e R s m args below meth c H locs cells slots Q (F0 m pc ls (.int (jI v) :: .int (jI u) :: rest)) := lv_iadd hx hb hdg (by rw [jI_add]; exact k)
theorem jx_isub (hx : p.tables.exec = Jvm.exec) (hb : c.code = cc) {u v : Int} (hdg : decode cc pc = .ok (.isub, 1)) (k : W p l e R s m args below meth c H locs cells slots Q (F0 m (pc + 1) ls (.int (jI (u - v)) :: rest))) : W p l e R s m args below meth c H locs cells slots Q (F0 m pc ls (.int (jI v) :: .int (jI u) :: rest)) := lv_isub hx hb hdg (by rw [jI_sub]; exact k)
theorem jx_imul (hx : p.tables.exec = Jvm.exec) (hb : c.code = cc) {u v : Int} (hdg : decode cc pc = .ok (.imul, 1)) (k : W p l e R s m args below meth c H locs cells slots Q (F0 m (pc + 1) ls (.int (jI (u * v)) :: rest))) : W p l e R s m args below meth c H locs cells slots Q (F0 m pc ls (.int (jI v) :: .int (jI u) :: rest)) := lv_imul hx hb hdg (by rw [jI_mul]; exact k)
theorem jx_ior (hx : p.tables.exec = Jvm.exec) (hb : c.code = cc) {u v : Int} (hdg : decode cc pc = .ok (.ior, 1)) (k : W p l e R s m args below meth c H locs cells slots Q (F0 m (pc + 1) ls (.int (jI (jor u v)) :: rest))) : W p l e R s m args below meth c H locs cells slots Q (F0 m pc ls (.int (jI v) :: .int (jI u) :: rest)) := lv_ior hx hb hdg (by rw [jor, jI_of] at k; exact k)
theorem jx_iand (hx : p.tables.exec = Jvm.exec) (hb : c.code = cc) {u v : Int} (hdg : decode cc pc = .ok (.iand, 1)) (k : W p l e R s m args below meth c H locs cells slots Q (F0 m (pc + 1) ls (.int (jI (jand u v)) :: rest))) : W p l e R s m args below meth c H locs cells slots Q (F0 m pc ls (.int (jI v) :: .int (jI u) :: rest)) := lv_iand hx hb hdg (by rw [jand, jI_of] at k; exact k)
theorem jx_ixor (hx : p.tables.exec = Jvm.exec) (hb : c.code = cc) {u v : Int} (hdg : decode cc pc = .ok (.ixor, 1)) (k : W p l e R s m args below meth c H locs cells slots Q (F0 m (pc + 1) ls (.int (jI (jxor u v)) :: rest))) : W p l e R s m args below meth c H locs cells slots Q (F0 m pc ls (.int (jI v) :: .int (jI u) :: rest)) := lv_ixor hx hb hdg (by rw [jxor, jI_of] at k; exact k)
theorem jx_ishl (hx : p.tables.exec = Jvm.exec) (hb : c.code = cc) {u v : Int} (hdg : decode cc pc = .ok (.ishl, 1)) (k : W p l e R s m args below meth c H locs cells slots Q (F0 m (pc + 1) ls (.int (jI (jshl u v)) :: rest))) : W p l e R s m args below meth c H locs cells slots Q (F0 m pc ls (.int (jI v) :: .int (jI u) :: rest)) := lv_ishl hx hb hdg (by rw [jshl, jI_of] at k; exact k)
theorem jx_ishr (hx : p.tables.exec = Jvm.exec) (hb : c.code = cc) {u v : Int} (hdg : decode cc pc = .ok (.ishr, 1)) (k : W p l e R s m args below meth c H locs cells slots Q (F0 m (pc + 1) ls (.int (jI (jshr u v)) :: rest))) : W p l e R s m args below meth c H locs cells slots Q (F0 m pc ls (.int (jI v) :: .int (jI u) :: rest)) := lv_ishr hx hb hdg (by rw [jshr, jI_of] at k; exact k)
theorem jx_iushr (hx : p.tables.exec = Jvm.exec) (hb : c.code = cc) {u v : Int} (hdg : decode cc pc = .ok (.iushr, 1)) (k : W p l e R s m args below meth c H locs cells slots Q (F0 m (pc + 1) ls (.int (jI (jushr u v)) :: rest))) : W p l e R s m args below meth c H locs cells slots Q (F0 m pc ls (.int (jI v) :: .int (jI u) :: rest)) := lv_iushr hx hb hdg (v := jI (jushr u v)) (by rw [jushr, jI_of]) k
theorem jx_irem (hx : p.tables.exec = Jvm.exec) (hb : c.code = cc) {α : Type} {u v : Int} {X : Option α} {r : α} (h : jre u v X = some r) (hdg : decode cc pc = .ok (.irem, 1)) (k : X = some r → W p l e R s m args below meth c H locs cells slots Q (F0 m (pc + 1) ls (.int (jI (u % v)) :: rest))) : W p l e R s m args below meth c H locs cells slots Q (F0 m pc ls (.int (jI v) :: .int (jI u) :: rest)) := by
  obtain ⟨⟨h1, h2, h3, h4⟩, hX⟩ := jre_i h
  have eu : jI u = nI u.toNat := by show Int32.ofInt u = Int32.ofInt (u.toNat : Int); rw [Int.toNat_of_nonneg h1]
  have ev : jI v = nI v.toNat := by show Int32.ofInt v = Int32.ofInt (v.toNat : Int); rw [Int.toNat_of_nonneg (by omega)]
  have er : jI (u % v) = nI (u.toNat % v.toNat) := by
    show Int32.ofInt (u % v) = Int32.ofInt ((u.toNat % v.toNat : Nat) : Int)
    rw [Int.natCast_emod, Int.toNat_of_nonneg h1, Int.toNat_of_nonneg (by omega)]
  refine lv_irem hx hb hdg ?_ ?_
  · rw [ev]; exact nI_ne0 (by omega) (by omega)
  · rw [eu, ev, pk_rem (by omega) (by omega) (by omega), ← er]
    exact k hX
end JX
