/-! counting holes -/
section Q50
variable {fu : Nat} {st se tr fi la sh ac : Int → Int} {no : Int}
theorem E1_hol {f g : Int → Int} (h : E1 f g) : holN f = holN g := by
  unfold holN
  refine fdA_congr (fun j s h1 h2 => ?_)
  show s + bitN (f j) = s + bitN (g j)
  rw [h j (by omega) (by omega)]
theorem q_allHoles_c {g c : Int → Int} (hg : ∀ s, 0 ≤ s → s < 100 → f_J6_bitCount_0f7a4 fu (g s) = some (c (g s))) (hf : 200 ≤ fu) : f_X2_allHoles fu g = some (fdA (fun s m => m + c (g s)) 0 0 100) := by
  unfold f_X2_allHoles
  obtain ⟨p, e, i1, i2⟩ := loop_upI (L := fun q (s : Int) i => f_X2_allHoles_L4 fu g (f_X2_allHoles_X27 fu) q s i) (f_X2_allHoles_X27 fu)
    (fun i p => 0 ≤ i ∧ p = fdA (fun s m => m + c (g s)) 0 0 i) 100
    (fun q s hI => by
      show f_X2_allHoles_L4_b fu g _ _ s 100 = _
      unfold f_X2_allHoles_L4_b
      rw [jck_of (by omega) (by omega) (by omega) (by omega), if_pos (by omega)])
    (fun q s i hi hI => by
      obtain ⟨i1, rfl⟩ := hI
      refine ⟨_, ?_, by omega, rfl⟩
      show f_X2_allHoles_L4_b fu g _ _ _ i = _
      unfold f_X2_allHoles_L4_b
      rw [jck_of (by omega) (by omega) (by omega) (by omega), if_neg (by omega), q_holesAt i1 hi, jb_s, hg i i1 hi, jb_s, fdA_s _ _ i1])
    100 fu 0 0 (by omega) (by omega) ⟨by omega, by rw [fdA_0]⟩
  rw [i2] at e
  exact e
theorem q_allHoles {g : Int → Int} (hg : ∀ s, 0 ≤ s → s < 100 → ST (g s)) (hf : 200 ≤ fu) : f_X2_allHoles fu g = some (holN g) :=
  q_allHoles_c (c := bitN) (fun s h1 h2 => q_bitCount (hg s h1 h2)) hf
-- a note is heard where it begins
theorem bit_pn {g : Int → Int} {t s q u : Int} (hg : ∀ q, ST (g q)) (h1 : 0 ≤ t) (h2 : t < 12) (h3 : 0 ≤ u) (h4 : u < 12) (h : jand (jshr (g q) u) 1 = 1) : jand (jshr (pnS t g s q) u) 1 = 1 := by
  unfold pnS uI
  by_cases c : q = s
  · rw [if_pos c, bit_or (hg s) (ST_shl h1 h2) h3 h4]
    left
    rw [← c]; exact h
  · rw [if_neg c]; exact h
theorem ST_pn {g : Int → Int} {t s : Int} (h1 : 0 ≤ t) (h2 : t < 12) (h : ∀ q, ST (g q)) : ∀ q, ST (pnS t g s q) := by
  intro q
  unfold pnS uI
  by_cases c : q = s
  · rw [if_pos c]; exact ST_or (h s) (ST_shl h1 h2)
  · rw [if_neg c]; exact h q
theorem accT_in {t : Int} (h1 : 0 ≤ t) (h2 : t < 12) : 0 ≤ accT t ∧ accT t < 12 := by
  unfold accT
  by_cases d : t = 11
  · rw [if_pos d]; omega
  · rw [if_neg d]; omega
theorem row_keep {g : Int → Int} {k s q u : Int} (h1 : 0 ≤ tr k) (h2 : tr k < 12) (h3 : 0 ≤ u) (h4 : u < 12) (hg : ∀ q, ST (g q)) (h : jand (jshr (g q) u) 1 = 1) : jand (jshr (rowS se tr fi la sh k s g q) u) 1 = 1 := by
  unfold rowS
  by_cases c : hol se fi la sh k s = 0
  · rw [if_pos c]; exact h
  · rw [if_neg c]; exact bit_pn hg h1 h2 h3 h4 h
theorem row_ST {g : Int → Int} {k s : Int} (h1 : 0 ≤ tr k) (h2 : tr k < 12) (hg : ∀ q, ST (g q)) : ∀ q, ST (rowS se tr fi la sh k s g q) := by
  unfold rowS
  by_cases c : hol se fi la sh k s = 0
  · rw [if_pos c]; exact hg
  · rw [if_neg c]; exact ST_pn h1 h2 hg
theorem bit_put {g : Int → Int} {t s : Int} (hg : ∀ q, ST (g q)) (h1 : 0 ≤ t) (h2 : t < 12) : jand (jshr (pnS t g s s) t) 1 = 1 := by
  unfold pnS
  rw [uI_s, bit_or (hg s) (ST_shl h1 h2) h1 h2]
  exact Or.inr (bit_shl h1 h2)
theorem not_bit {g : Int → Int} {j q u : Int} (hN : NT tr fi la sh no) (hj : 0 ≤ j) (hj2 : j < no) (h3 : 0 ≤ u) (h4 : u < 12) (hg : ∀ q, ST (g q)) (h : jand (jshr (g q) u) 1 = 1 ∨ (q = fi j ∧ u = tr j)) : (∀ q, ST (notS se tr fi la sh ac j g q)) ∧ jand (jshr (notS se tr fi la sh ac j g q) u) 1 = 1 := by
  obtain ⟨a1, a2, a3, a4, a5, -, -⟩ := hN.2.2 j hj hj2
  have e : (∀ q, ST (fdA (rowS se tr fi la sh j) g (fi j) (la j + 1) q)) ∧ (fi j < la j + 1 → jand (jshr (fdA (rowS se tr fi la sh j) g (fi j) (la j + 1) q) u) 1 = 1) := by
    refine fdA_inv (I := fun a (g' : Int → Int) => (∀ q, ST (g' q)) ∧ ((jand (jshr (g q) u) 1 = 1 ∨ fi j < a) → jand (jshr (g' q) u) 1 = 1)) (a := fi j) (i := la j + 1) (by omega) ⟨hg, fun x => x.elim id (fun y => by omega)⟩ (fun s g' k1 k2 k3 => ⟨row_ST a1 a2 k3.1, fun k4 => ?_⟩) |> fun r => ⟨r.1, fun x => r.2 (Or.inr x)⟩
    by_cases c : s = fi j
    · rcases h with h | ⟨rfl, rfl⟩
      · exact row_keep a1 a2 h3 h4 k3.1 (k3.2 (Or.inl h))
      · subst c
        unfold rowS
        have hh : hol se fi la sh j (fi j) = 1 := if_pos (Or.inl rfl)
        rw [if_neg (by omega)]
        exact bit_put k3.1 a1 a2
    · exact row_keep a1 a2 h3 h4 k3.1 (k3.2 (Or.inr (by omega)))
  have b := accT_in a1 a2
  unfold notS
  by_cases c : ac j = 0
  · rw [if_pos c]; exact ⟨e.1, e.2 (by omega)⟩
  · rw [if_neg c]; exact ⟨ST_pn b.1 b.2 e.1, bit_pn e.1 b.1 b.2 h3 h4 (e.2 (by omega))⟩
theorem not_ST {g : Int → Int} {j : Int} (hN : NT tr fi la sh no) (hj : 0 ≤ j) (hj2 : j < no) (hg : ∀ q, ST (g q)) : (∀ q, ST (notS se tr fi la sh ac j g q)) := by
  obtain ⟨a1, a2, a3, a4, a5, -, -⟩ := hN.2.2 j hj hj2
  exact (not_bit (q := fi j) (u := tr j) hN hj hj2 a1 a2 hg (Or.inr ⟨rfl, rfl⟩)).1
theorem HO_bit {k : Int} (hN : NT tr fi la sh no) (hk : 0 ≤ k) (hk2 : k < no) : jand (jshr (HO se tr fi la sh ac no (fi k)) (tr k)) 1 = 1 := by
  obtain ⟨a1, a2, a3, a4, a5, -, -⟩ := hN.2.2 k hk hk2
  unfold HO
  refine (fdA_inv (I := fun i (g : Int → Int) => (∀ q, ST (g q)) ∧ (k < i → jand (jshr (g (fi k)) (tr k)) 1 = 1)) hN.1 ⟨fun _ => ST_0, fun h => by omega⟩ (fun j g h1 h2 h3 => ?_)).2 hk2
  refine ⟨not_ST hN h1 h2 h3.1, fun h4 => ?_⟩
  by_cases c : j = k
  · subst c
    exact (not_bit hN h1 h2 a1 a2 h3.1 (Or.inr ⟨rfl, rfl⟩)).2
  · exact (not_bit hN h1 h2 a1 a2 h3.1 (Or.inl (h3.2 (by omega)))).2
theorem EH_bit {ho : Int → Int} {h s t : Int} (hs : 0 ≤ s) (hh : 0 ≤ h) (hst : ∀ q, ST (ho q)) (h1 : 0 ≤ t) (h2 : t < 12) (hb : jand (jshr (ho s) t) 1 = 1) : jand (jshr (EHs ho h s) t) 1 = 1 := by
  unfold EHs
  have m := jmax_or (a := 0) (b := s - h)
  refine (fdA_inv (I := fun i v => ST v ∧ (s < i → jand (jshr v t) 1 = 1)) (by omega) ⟨ST_0, fun x => by omega⟩ (fun j v j1 j2 hv => ⟨ST_or hv.1 (hst j), fun x => ?_⟩)).2 (by omega)
  rw [bit_or hv.1 (hst j) h1 h2]
  right
  rw [show j = s by omega]
  exact hb
end Q50

