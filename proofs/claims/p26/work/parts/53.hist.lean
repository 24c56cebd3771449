/-! history, undo, save, restore -/
theorem jb6_s {t1 t2 t3 t4 t5 t6 γ : Type} (a1 : t1) (a2 : t2) (a3 : t3) (a4 : t4) (a5 : t5) (a6 : t6) (k : t1 → t2 → t3 → t4 → t5 → t6 → Option γ) : jb6 (some (a1, a2, a3, a4, a5, a6)) k = k a1 a2 a3 a4 a5 a6 := rfl
theorem jb7_s {t1 t2 t3 t4 t5 t6 t7 γ : Type} (a1 : t1) (a2 : t2) (a3 : t3) (a4 : t4) (a5 : t5) (a6 : t6) (a7 : t7) (k : t1 → t2 → t3 → t4 → t5 → t6 → t7 → Option γ) : jb7 (some (a1, a2, a3, a4, a5, a6, a7)) k = k a1 a2 a3 a4 a5 a6 a7 := rfl
theorem jb8_s {t1 t2 t3 t4 t5 t6 t7 t8 γ : Type} (a1 : t1) (a2 : t2) (a3 : t3) (a4 : t4) (a5 : t5) (a6 : t6) (a7 : t7) (a8 : t8) (k : t1 → t2 → t3 → t4 → t5 → t6 → t7 → t8 → Option γ) : jb8 (some (a1, a2, a3, a4, a5, a6, a7, a8)) k = k a1 a2 a3 a4 a5 a6 a7 a8 := rfl
theorem jb9_s {t1 t2 t3 t4 t5 t6 t7 t8 t9 γ : Type} (a1 : t1) (a2 : t2) (a3 : t3) (a4 : t4) (a5 : t5) (a6 : t6) (a7 : t7) (a8 : t8) (a9 : t9) (k : t1 → t2 → t3 → t4 → t5 → t6 → t7 → t8 → t9 → Option γ) : jb9 (some (a1, a2, a3, a4, a5, a6, a7, a8, a9)) k = k a1 a2 a3 a4 a5 a6 a7 a8 a9 := rfl
theorem fm_all : ∀ n, n < 16 → f_J9_floorMod_7cf53 0 ((n : Nat) : Int) 6 = some (((n : Nat) : Int) % 6) := by decide +kernel
theorem q_placeOf {fu : Nat} {ol x : Int} (h1 : 0 ≤ ol + x) (h2 : ol + x < 16) : f_X0_placeOf fu ol x = some ((ol + x) % 6) := by
  have := fm_all (ol + x).toNat (by omega)
  rw [Int.toNat_of_nonneg h1] at this
  have e : f_J9_floorMod_7cf53 fu (ol + x) 6 = some ((ol + x) % 6) := this
  unfold f_X0_placeOf
  rw [e, jb_s]
def EQn (n : Int) (f g : Int → Int) : Prop := ∀ q, 0 ≤ q → q < n → f q = g q
theorem EQn_cpy (n : Int) (f g : Int → Int) : EQn n (jcpy f g n) f := fun _ h1 h2 => jcpy_in f g h1 h2
theorem EQn_rf (n : Int) (f : Int → Int) : EQn n f f := fun _ _ _ => rfl
section Q53
variable {fu : Nat} {st se tr fi la sh ac hsf : Int → Int} {no rc ol si : Int} {k_se k_tr k_fi k_la k_sh k_ac : Int → Int → Int} {k_no : Int → Int}
theorem q_record {p : Int} (hA : AC ac) (hp : (ol + si) % 6 = p) (s0 : 0 ≤ si) (s1 : si ≤ 6) (o0 : 0 ≤ ol) (o1 : ol < 6) (hf : 100 ≤ fu) :
    f_X0_record fu ol si k_se k_tr k_fi k_la k_sh k_ac k_no se tr fi la sh ac no = some (if 6 ≤ si then (ol + 1) % 6 else ol, if 6 ≤ si then si else si + 1, uI k_se p (jcpy se (k_se p) 4), uI k_tr p (jcpy tr (k_tr p) 40), uI k_fi p (jcpy fi (k_fi p) 40), uI k_la p (jcpy la (k_la p) 40), uI k_sh p (jcpy sh (k_sh p) 40), uI k_ac p (jcpy ac (k_ac p) 40), uI k_no p no) := by
  have p0 : 0 ≤ p ∧ p < 6 := by omega
  unfold f_X0_record
  rw [q_placeOf (by omega) (by omega), jb_s, hp, jix_of (by omega) (by omega), q_placeOf (ol := ol) (x := 1) (by omega) (by omega)]
  simp only [q_become hA hf, jb7_s, jb_s]
  rw [jck_of (by omega) (by omega) (by omega) (by omega)]
  have hc : p = 0 ∨ p = 1 ∨ p = 2 ∨ p = 3 ∨ p = 4 ∨ p = 5 := by omega
  rcases hc with h | h | h | h | h | h <;> subst h <;> (by_cases c : 6 ≤ si <;> simp (disch := omega) only [jck_of, if_pos, if_neg, c, if_true, if_false] <;> rfl)
theorem uI_so {α : Type} (f : Int → α) (i j : Int) (x : α) (h : j = i) : uI f i x j = x := if_pos h
end Q53

