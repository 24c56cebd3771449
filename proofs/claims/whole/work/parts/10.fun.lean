def wAr (y : Nat → ClassId) (ad n : Nat) (f : Int → Int) : va_W := [(ad, .inl (y 0, n, .inl (jA f)))]
def wRo (y : Nat → ClassId) (a : Nat → Nat) (se tr fi la sh ac : Int → Int) (no : Int) : va_W := [(a 0, .inr (3, [.ref (a 1), .ref (a 2), .ref (a 3), .ref (a 4), .ref (a 5), .ref (a 6), .int (jI no)])), (a 1, .inl (y 0, 4, .inl (jA se))), (a 2, .inl (y 0, 40, .inl (jA tr))), (a 3, .inl (y 0, 40, .inl (jA fi))), (a 4, .inl (y 0, 40, .inl (jA la))), (a 5, .inl (y 0, 40, .inl (jA sh))), (a 6, .inl (y 1, 40, .inl (jA ac)))]
def wPa (y : Nat → ClassId) (a : Nat → Nat) (eh : Int → Int) (we : Int) : va_W := [(a 0, .inr (2, [.ref (a 2), .ref (a 1), .int (jI we)])), (a 1, .inl (y 0, 100, .inl (jA eh)))]
def wPd (y : Nat → ClassId) (a : Nat → Nat) (tx : Int → Int) (le po : Int) (pt pf pl pa : Int → Int) (fo : Int) : va_W := [(a 0, .inr (1, [.ref (a 1), .int (jI le), .int (jI po), .ref (a 2), .ref (a 3), .ref (a 4), .ref (a 5), .int (jI fo)])), (a 1, .inl (y 2, 60, .inl (jA tx))), (a 2, .inl (y 0, 10, .inl (jA pt))), (a 3, .inl (y 0, 10, .inl (jA pf))), (a 4, .inl (y 0, 10, .inl (jA pl))), (a 5, .inl (y 1, 10, .inl (jA pa)))]
def jRf (aK : Nat → Nat → Nat) : Nat → Option Nat := fun k => some (aK k 0)
def wHi (y : Nat → ClassId) (a : Nat → Nat) (aK : Nat → Nat → Nat) (ol si : Int) : va_W := [(a 0, .inr (0, [.ref (a 1), .int (jI ol), .int (jI si)])), (a 1, .inl (y 3, 6, .inr (.inr (.inr (.inr (jRf aK))))))]
def wMh (y : Nat → ClassId) (aM aR aU aP aD aG : Nat → Nat) (aS : Nat → Nat → Nat) (sv : Int → Int) : va_W := [(aM 0, .inr (4, [.ref (aR 0), .ref (aU 0), .ref (aP 0), .ref (aD 0), .ref (aG 0), .ref (aM 1), .ref (aM 2)])), (aM 1, .inl (y 3, 2, .inr (.inr (.inr (.inr (jRf aS)))))), (aM 2, .inl (y 1, 2, .inl (jA sv)))]
def wMo (y : Nat → ClassId) (a : Nat → Nat) (rc : Int) (is_ pd : Int → Int) (pn : Int) (ho eh mv : Int → Int) (at_ tk fs lt ea : Int) : va_W := [(a 0, .inr (5, [.ref (a 6), .ref (a 7), .ref (a 8), .int (jI rc), .ref (a 9), .ref (a 1), .ref (a 2), .int (jI pn), .ref (a 3), .ref (a 4), .ref (a 5), .int (jI at_), .int (jI tk), .int (jI fs), .int (jI lt), .int (jI ea)])), (a 1, .inl (y 0, 2, .inl (jA is_))), (a 2, .inl (y 0, 60, .inl (jA pd))), (a 3, .inl (y 0, 100, .inl (jA ho))), (a 4, .inl (y 0, 100, .inl (jA eh))), (a 5, .inl (y 0, 5, .inl (jA mv)))]
def f_X4_isIn (fu : Nat) (x0 : Int) (x1 : Int) (x2 : Int) : Option (Int) :=
  jck x0 x1 (if x0 < x1 then jbo 0 (some 0) else jck x0 x2 (if x2 < x0 then jbo 0 (some 0) else jbo 1 (some 1)))
def f_X3_settingOf (fu : Nat) (se : Int → Int) (x1 : Int) : Option (Int) :=
  jb (f_X4_isIn fu x1 0 3) (fun v1 => jck v1 0 (if v1 = 0 then some 0 else jix 4 x1 (some (se x1))))
def f_J9_floorMod_7cf53 (fu : Nat) (x0 : Int) (x1 : Int) : Option (Int) :=
  jre x0 x1 (jck (jxor x0 x1) 0 (if 0 ≤ (jxor x0 x1) then some (x0 % x1) else jck (x0 % x1) 0 (if (x0 % x1) = 0 then some (x0 % x1) else some ((x0 % x1) + x1))))
def f_X0_placeOf (fu : Nat) (ol : Int) (x1 : Int) : Option (Int) :=
  jb (f_J9_floorMod_7cf53 fu (ol + x1) 6) (fun v1 => some v1)
def f_X3_takeSettings (fu : Nat) (se : Int → Int) (o_se : Int → Int) : Option ((Int → Int)) :=
  some (jcpy o_se se 4)
def f_X3_become_X87 (fu : Nat)  (se_m2 : Int → Int) (tr_m3 : Int → Int) (fi_m4 : Int → Int) (la_m5 : Int → Int) (sh_m6 : Int → Int) (ac_m7 : Int → Int) (no_m8 : Int) : Option ((Int → Int) × (Int → Int) × (Int → Int) × (Int → Int) × (Int → Int) × (Int → Int) × Int) :=
  some (se_m2, tr_m3, fi_m4, la_m5, sh_m6, ac_m7, no_m8)
def f_X3_become_L15_b (fu : Nat) (o_tr : Int → Int) (o_fi : Int → Int) (o_la : Int → Int) (o_sh : Int → Int) (o_ac : Int → Int) (k15_ : (Int → Int) → (Int → Int) → (Int → Int) → (Int → Int) → (Int → Int) → (Int → Int) → Int → Option ((Int → Int) × (Int → Int) × (Int → Int) × (Int → Int) × (Int → Int) × (Int → Int) × Int)) (j15_ : (Int → Int) → (Int → Int) → (Int → Int) → (Int → Int) → (Int → Int) → (Int → Int) → Int → Int → Option ((Int → Int) × (Int → Int) × (Int → Int) × (Int → Int) × (Int → Int) × (Int → Int) × Int)) (se_m9 : Int → Int) (tr_m10 : Int → Int) (fi_m11 : Int → Int) (la_m12 : Int → Int) (sh_m13 : Int → Int) (ac_m14 : Int → Int) (no_m15 : Int) (v16 : Int) : Option ((Int → Int) × (Int → Int) × (Int → Int) × (Int → Int) × (Int → Int) × (Int → Int) × Int) :=
  jck v16 40 (if 40 ≤ v16 then k15_ se_m9 tr_m10 fi_m11 la_m12 sh_m13 ac_m14 no_m15 else jix 40 v16 (jix 40 v16 (jix 40 v16 (jix 40 v16 (jix 40 v16 (jix 40 v16 (jix 40 v16 (jix 40 v16 (jix 40 v16 (jix 40 v16 (jbo (o_ac v16) (j15_ se_m9 (uI tr_m10 v16 (o_tr v16)) (uI fi_m11 v16 (o_fi v16)) (uI la_m12 v16 (o_la v16)) (uI sh_m13 v16 (o_sh v16)) (uI ac_m14 v16 (o_ac v16)) no_m15 (v16 + 1)))))))))))))
def f_X3_become_L15 (fu : Nat) (o_tr : Int → Int) (o_fi : Int → Int) (o_la : Int → Int) (o_sh : Int → Int) (o_ac : Int → Int) (k15_ : (Int → Int) → (Int → Int) → (Int → Int) → (Int → Int) → (Int → Int) → (Int → Int) → Int → Option ((Int → Int) × (Int → Int) × (Int → Int) × (Int → Int) × (Int → Int) × (Int → Int) × Int)) : Nat → (Int → Int) → (Int → Int) → (Int → Int) → (Int → Int) → (Int → Int) → (Int → Int) → Int → Int → Option ((Int → Int) × (Int → Int) × (Int → Int) × (Int → Int) × (Int → Int) × (Int → Int) × Int)
  | 0 => fun _ _ _ _ _ _ _ _ => none
  | n + 1 => f_X3_become_L15_b fu o_tr o_fi o_la o_sh o_ac k15_ (f_X3_become_L15 fu o_tr o_fi o_la o_sh o_ac k15_ n)
def f_X3_become (fu : Nat) (se : Int → Int) (tr : Int → Int) (fi : Int → Int) (la : Int → Int) (sh : Int → Int) (ac : Int → Int) (no : Int) (o_se : Int → Int) (o_tr : Int → Int) (o_fi : Int → Int) (o_la : Int → Int) (o_sh : Int → Int) (o_ac : Int → Int) (o_no : Int) : Option ((Int → Int) × (Int → Int) × (Int → Int) × (Int → Int) × (Int → Int) × (Int → Int) × Int) :=
  jb (f_X3_takeSettings fu se o_se) (fun se_m1 => f_X3_become_L15 fu o_tr o_fi o_la o_sh o_ac (f_X3_become_X87 fu) fu se_m1 tr fi la sh ac o_no 0)
def f_X0_record (fu : Nat) (ol : Int) (si : Int) (k_se : Int → Int → Int) (k_tr : Int → Int → Int) (k_fi : Int → Int → Int) (k_la : Int → Int → Int) (k_sh : Int → Int → Int) (k_ac : Int → Int → Int) (k_no : Int → Int) (o_se : Int → Int) (o_tr : Int → Int) (o_fi : Int → Int) (o_la : Int → Int) (o_sh : Int → Int) (o_ac : Int → Int) (o_no : Int) : Option (Int × Int × (Int → Int → Int) × (Int → Int → Int) × (Int → Int → Int) × (Int → Int → Int) × (Int → Int → Int) × (Int → Int → Int) × (Int → Int)) :=
  jb (f_X0_placeOf fu ol si) (fun v1 => jix 6 v1 (if v1 = 0 then jb7 (f_X3_become fu (k_se 0) (k_tr 0) (k_fi 0) (k_la 0) (k_sh 0) (k_ac 0) (k_no 0) o_se o_tr o_fi o_la o_sh o_ac o_no) (fun se_m2 tr_m3 fi_m4 la_m5 sh_m6 ac_m7 no_m8 => jck si 6 (if 6 ≤ si then jb (f_X0_placeOf fu ol 1) (fun v9 => some (v9, si, (uI k_se 0 se_m2), (uI k_tr 0 tr_m3), (uI k_fi 0 fi_m4), (uI k_la 0 la_m5), (uI k_sh 0 sh_m6), (uI k_ac 0 ac_m7), (uI k_no 0 no_m8))) else some (ol, (si + 1), (uI k_se 0 se_m2), (uI k_tr 0 tr_m3), (uI k_fi 0 fi_m4), (uI k_la 0 la_m5), (uI k_sh 0 sh_m6), (uI k_ac 0 ac_m7), (uI k_no 0 no_m8)))) else if v1 = 1 then jb7 (f_X3_become fu (k_se 1) (k_tr 1) (k_fi 1) (k_la 1) (k_sh 1) (k_ac 1) (k_no 1) o_se o_tr o_fi o_la o_sh o_ac o_no) (fun se_m10 tr_m11 fi_m12 la_m13 sh_m14 ac_m15 no_m16 => jck si 6 (if 6 ≤ si then jb (f_X0_placeOf fu ol 1) (fun v17 => some (v17, si, (uI k_se 1 se_m10), (uI k_tr 1 tr_m11), (uI k_fi 1 fi_m12), (uI k_la 1 la_m13), (uI k_sh 1 sh_m14), (uI k_ac 1 ac_m15), (uI k_no 1 no_m16))) else some (ol, (si + 1), (uI k_se 1 se_m10), (uI k_tr 1 tr_m11), (uI k_fi 1 fi_m12), (uI k_la 1 la_m13), (uI k_sh 1 sh_m14), (uI k_ac 1 ac_m15), (uI k_no 1 no_m16)))) else if v1 = 2 then jb7 (f_X3_become fu (k_se 2) (k_tr 2) (k_fi 2) (k_la 2) (k_sh 2) (k_ac 2) (k_no 2) o_se o_tr o_fi o_la o_sh o_ac o_no) (fun se_m18 tr_m19 fi_m20 la_m21 sh_m22 ac_m23 no_m24 => jck si 6 (if 6 ≤ si then jb (f_X0_placeOf fu ol 1) (fun v25 => some (v25, si, (uI k_se 2 se_m18), (uI k_tr 2 tr_m19), (uI k_fi 2 fi_m20), (uI k_la 2 la_m21), (uI k_sh 2 sh_m22), (uI k_ac 2 ac_m23), (uI k_no 2 no_m24))) else some (ol, (si + 1), (uI k_se 2 se_m18), (uI k_tr 2 tr_m19), (uI k_fi 2 fi_m20), (uI k_la 2 la_m21), (uI k_sh 2 sh_m22), (uI k_ac 2 ac_m23), (uI k_no 2 no_m24)))) else if v1 = 3 then jb7 (f_X3_become fu (k_se 3) (k_tr 3) (k_fi 3) (k_la 3) (k_sh 3) (k_ac 3) (k_no 3) o_se o_tr o_fi o_la o_sh o_ac o_no) (fun se_m26 tr_m27 fi_m28 la_m29 sh_m30 ac_m31 no_m32 => jck si 6 (if 6 ≤ si then jb (f_X0_placeOf fu ol 1) (fun v33 => some (v33, si, (uI k_se 3 se_m26), (uI k_tr 3 tr_m27), (uI k_fi 3 fi_m28), (uI k_la 3 la_m29), (uI k_sh 3 sh_m30), (uI k_ac 3 ac_m31), (uI k_no 3 no_m32))) else some (ol, (si + 1), (uI k_se 3 se_m26), (uI k_tr 3 tr_m27), (uI k_fi 3 fi_m28), (uI k_la 3 la_m29), (uI k_sh 3 sh_m30), (uI k_ac 3 ac_m31), (uI k_no 3 no_m32)))) else if v1 = 4 then jb7 (f_X3_become fu (k_se 4) (k_tr 4) (k_fi 4) (k_la 4) (k_sh 4) (k_ac 4) (k_no 4) o_se o_tr o_fi o_la o_sh o_ac o_no) (fun se_m34 tr_m35 fi_m36 la_m37 sh_m38 ac_m39 no_m40 => jck si 6 (if 6 ≤ si then jb (f_X0_placeOf fu ol 1) (fun v41 => some (v41, si, (uI k_se 4 se_m34), (uI k_tr 4 tr_m35), (uI k_fi 4 fi_m36), (uI k_la 4 la_m37), (uI k_sh 4 sh_m38), (uI k_ac 4 ac_m39), (uI k_no 4 no_m40))) else some (ol, (si + 1), (uI k_se 4 se_m34), (uI k_tr 4 tr_m35), (uI k_fi 4 fi_m36), (uI k_la 4 la_m37), (uI k_sh 4 sh_m38), (uI k_ac 4 ac_m39), (uI k_no 4 no_m40)))) else jb7 (f_X3_become fu (k_se 5) (k_tr 5) (k_fi 5) (k_la 5) (k_sh 5) (k_ac 5) (k_no 5) o_se o_tr o_fi o_la o_sh o_ac o_no) (fun se_m42 tr_m43 fi_m44 la_m45 sh_m46 ac_m47 no_m48 => jck si 6 (if 6 ≤ si then jb (f_X0_placeOf fu ol 1) (fun v49 => some (v49, si, (uI k_se 5 se_m42), (uI k_tr 5 tr_m43), (uI k_fi 5 fi_m44), (uI k_la 5 la_m45), (uI k_sh 5 sh_m46), (uI k_ac 5 ac_m47), (uI k_no 5 no_m48))) else some (ol, (si + 1), (uI k_se 5 se_m42), (uI k_tr 5 tr_m43), (uI k_fi 5 fi_m44), (uI k_la 5 la_m45), (uI k_sh 5 sh_m46), (uI k_ac 5 ac_m47), (uI k_no 5 no_m48))))))
def f_X3_giveSetting (fu : Nat) (se : Int → Int) (x1 : Int) (x2 : Int) : Option ((Int → Int)) :=
  jb (f_X4_isIn fu x1 0 3) (fun v1 => jck v1 0 (if v1 = 0 then some se else jix 4 x1 (some (uI se x1 x2))))
def f_X4_set (fu : Nat) (r_se : Int → Int) (r_tr : Int → Int) (r_fi : Int → Int) (r_la : Int → Int) (r_sh : Int → Int) (r_ac : Int → Int) (r_no : Int) (g_ol : Int) (g_si : Int) (k_se : Int → Int → Int) (k_tr : Int → Int → Int) (k_fi : Int → Int → Int) (k_la : Int → Int → Int) (k_sh : Int → Int → Int) (k_ac : Int → Int → Int) (k_no : Int → Int) (x1 : Int) (x2 : Int) : Option (Int × (Int → Int) × Int × Int × (Int → Int → Int) × (Int → Int → Int) × (Int → Int → Int) × (Int → Int → Int) × (Int → Int → Int) × (Int → Int → Int) × (Int → Int)) :=
  jb (f_X4_isIn fu x1 0 3) (fun v1 => jck v1 0 (if v1 = 0 then some ((-2), r_se, g_ol, g_si, k_se, k_tr, k_fi, k_la, k_sh, k_ac, k_no) else jix 4 x1 (jix 4 x1 (jb (f_X4_isIn fu x2 (jL (Int.toNat x1)) (jG (Int.toNat x1))) (fun v2 => jck v2 0 (if v2 ≠ 0 then jb (f_X3_settingOf fu r_se x1) (fun v3 => jb9 (f_X0_record fu g_ol g_si k_se k_tr k_fi k_la k_sh k_ac k_no r_se r_tr r_fi r_la r_sh r_ac r_no) (fun ol_m4 si_m5 k_se_m6 k_tr_m7 k_fi_m8 k_la_m9 k_sh_m10 k_ac_m11 k_no_m12 => jb (f_X3_giveSetting fu r_se x1 x2) (fun se_m13 => some (v3, se_m13, ol_m4, si_m5, k_se_m6, k_tr_m7, k_fi_m8, k_la_m9, k_sh_m10, k_ac_m11, k_no_m12)))) else some ((-2), r_se, g_ol, g_si, k_se, k_tr, k_fi, k_la, k_sh, k_ac, k_no)))))))
def f_X4_isTrack (fu : Nat) (x0 : Int) : Option (Int) :=
  jb (f_X4_isIn fu x0 0 11) (fun v1 => jbo v1 (some v1))
def f_X4_isStep (fu : Nat) (x0 : Int) : Option (Int) :=
  jb (f_X4_isIn fu x0 0 99) (fun v1 => jbo v1 (some v1))
def f_X3_size (fu : Nat) (no : Int) : Option (Int) :=
  some no
def f_X3_has (fu : Nat) (no : Int) (x1 : Int) : Option (Int) :=
  jck x1 0 (if x1 < 0 then jbo 0 (some 0) else jck x1 no (if no ≤ x1 then jbo 0 (some 0) else jck x1 40 (if 40 ≤ x1 then jbo 0 (some 0) else jbo 1 (some 1))))
def f_X3_trackOf (fu : Nat) (tr : Int → Int) (no : Int) (x1 : Int) : Option (Int) :=
  jb (f_X3_has fu no x1) (fun v1 => jck v1 0 (if v1 = 0 then some 0 else jix 40 x1 (some (tr x1))))
def f_X3_firstOf (fu : Nat) (fi : Int → Int) (no : Int) (x1 : Int) : Option (Int) :=
  jb (f_X3_has fu no x1) (fun v1 => jck v1 0 (if v1 = 0 then some 0 else jix 40 x1 (some (fi x1))))
def f_X3_lastOf (fu : Nat) (la : Int → Int) (no : Int) (x1 : Int) : Option (Int) :=
  jb (f_X3_has fu no x1) (fun v1 => jck v1 0 (if v1 = 0 then some 0 else jix 40 x1 (some (la x1))))
def f_X3_touching_X54 (fu : Nat)  (v1 : Int) : Option (Int) :=
  some v1
def f_X3_touching_L6_b (fu : Nat) (tr : Int → Int) (fi : Int → Int) (la : Int → Int) (no : Int) (x1 : Int) (x2 : Int) (x3 : Int) (k6_ : Int → Option (Int)) (j6_ : Int → Int → Option (Int)) (v2 : Int) (v3 : Int) : Option (Int) :=
  jck v3 no (if no ≤ v3 then k6_ v2 else jb (f_X3_trackOf fu tr no v3) (fun v4 => jck v4 x1 (if v4 ≠ x1 then j6_ v2 (v3 + 1) else jb (f_X3_firstOf fu fi no v3) (fun v5 => jck v5 x3 (if x3 < v5 then j6_ v2 (v3 + 1) else jb (f_X3_lastOf fu la no v3) (fun v6 => jck v6 x2 (if v6 < x2 then j6_ v2 (v3 + 1) else j6_ (v2 + 1) (v3 + 1))))))))
def f_X3_touching_L6 (fu : Nat) (tr : Int → Int) (fi : Int → Int) (la : Int → Int) (no : Int) (x1 : Int) (x2 : Int) (x3 : Int) (k6_ : Int → Option (Int)) : Nat → Int → Int → Option (Int)
  | 0 => fun _ _ => none
  | n + 1 => f_X3_touching_L6_b fu tr fi la no x1 x2 x3 k6_ (f_X3_touching_L6 fu tr fi la no x1 x2 x3 k6_ n)
def f_X3_touching (fu : Nat) (tr : Int → Int) (fi : Int → Int) (la : Int → Int) (no : Int) (x1 : Int) (x2 : Int) (x3 : Int) : Option (Int) :=
  f_X3_touching_L6 fu tr fi la no x1 x2 x3 (f_X3_touching_X54 fu) fu 0 0
def f_X3_isTaken (fu : Nat) (tr : Int → Int) (fi : Int → Int) (la : Int → Int) (no : Int) (x1 : Int) (x2 : Int) (x3 : Int) : Option (Int) :=
  jb (f_X3_touching fu tr fi la no x1 x2 x3) (fun v1 => jck v1 0 (if v1 ≤ 0 then jbo 0 (some 0) else jbo 1 (some 1)))
def f_X3_placeFor_X53 (fu : Nat)  (v1 : Int) : Option (Int) :=
  some v1
def f_X3_placeFor_L5_b (fu : Nat) (tr : Int → Int) (fi : Int → Int) (no : Int) (x1 : Int) (x2 : Int) (k5_ : Int → Option (Int)) (j5_ : Int → Int → Option (Int)) (v2 : Int) (v3 : Int) : Option (Int) :=
  jck v3 no (if no ≤ v3 then k5_ v2 else jb (f_X3_firstOf fu fi no v3) (fun v4 => jck v4 x2 (if v4 < x2 then j5_ (v2 + 1) (v3 + 1) else jb (f_X3_firstOf fu fi no v3) (fun v5 => jck v5 x2 (if v5 ≠ x2 then j5_ v2 (v3 + 1) else jb (f_X3_trackOf fu tr no v3) (fun v6 => jck v6 x1 (if x1 ≤ v6 then j5_ v2 (v3 + 1) else j5_ (v2 + 1) (v3 + 1))))))))
def f_X3_placeFor_L5 (fu : Nat) (tr : Int → Int) (fi : Int → Int) (no : Int) (x1 : Int) (x2 : Int) (k5_ : Int → Option (Int)) : Nat → Int → Int → Option (Int)
  | 0 => fun _ _ => none
  | n + 1 => f_X3_placeFor_L5_b fu tr fi no x1 x2 k5_ (f_X3_placeFor_L5 fu tr fi no x1 x2 k5_ n)
def f_X3_placeFor (fu : Nat) (tr : Int → Int) (fi : Int → Int) (no : Int) (x1 : Int) (x2 : Int) : Option (Int) :=
  f_X3_placeFor_L5 fu tr fi no x1 x2 (f_X3_placeFor_X53 fu) fu 0 0
def f_X3_move (fu : Nat) (tr : Int → Int) (fi : Int → Int) (la : Int → Int) (sh : Int → Int) (ac : Int → Int) (x1 : Int) (x2 : Int) : Option ((Int → Int) × (Int → Int) × (Int → Int) × (Int → Int) × (Int → Int)) :=
  jb (f_X4_isIn fu x1 0 39) (fun v1 => jck v1 0 (if v1 = 0 then some (tr, fi, la, sh, ac) else jb (f_X4_isIn fu x2 0 39) (fun v2 => jck v2 0 (if v2 = 0 then some (tr, fi, la, sh, ac) else jix 40 x1 (jix 40 x2 (jix 40 x1 (jix 40 x2 (jix 40 x1 (jix 40 x2 (jix 40 x1 (jix 40 x2 (jix 40 x1 (jix 40 x2 (jbo (ac x1) (some ((uI tr x2 (tr x1)), (uI fi x2 (fi x1)), (uI la x2 (la x1)), (uI sh x2 (sh x1)), (uI ac x2 (ac x1))))))))))))))))))
def f_X3_add_J102 (fu : Nat) (v1 : Int) (tr_m9 : Int → Int) (fi_m10 : Int → Int) (la_m11 : Int → Int) (sh_m12 : Int → Int) (ac_m13 : Int → Int) (no_m14 : Int) : Option (Int × (Int → Int) × (Int → Int) × (Int → Int) × (Int → Int) × (Int → Int) × Int) :=
  some (v1, tr_m9, fi_m10, la_m11, sh_m12, ac_m13, (no_m14 + 1))
def f_X3_add_X49 (fu : Nat) (x1 : Int) (x2 : Int) (x3 : Int) (x4 : Int) (x5 : Int) (v1 : Int) (tr_m2 : Int → Int) (fi_m3 : Int → Int) (la_m4 : Int → Int) (sh_m5 : Int → Int) (ac_m6 : Int → Int) (no_m7 : Int) : Option (Int × (Int → Int) × (Int → Int) × (Int → Int) × (Int → Int) × (Int → Int) × Int) :=
  jb (f_X4_isIn fu v1 0 39) (fun v8 => jck v8 0 (if v8 = 0 then f_X3_add_J102 fu v1 tr_m2 fi_m3 la_m4 sh_m5 ac_m6 no_m7 else jix 40 v1 (jix 40 v1 (jix 40 v1 (jix 40 v1 (jix 40 v1 (jbo x5 (f_X3_add_J102 fu v1 (uI tr_m2 v1 x1) (uI fi_m3 v1 x2) (uI la_m4 v1 x3) (uI sh_m5 v1 x4) (uI ac_m6 v1 x5) no_m7))))))))
def f_X3_add_L26_b (fu : Nat) (v1 : Int) (k26_ : (Int → Int) → (Int → Int) → (Int → Int) → (Int → Int) → (Int → Int) → Int → Option (Int × (Int → Int) × (Int → Int) × (Int → Int) × (Int → Int) × (Int → Int) × Int)) (j26_ : (Int → Int) → (Int → Int) → (Int → Int) → (Int → Int) → (Int → Int) → Int → Int → Option (Int × (Int → Int) × (Int → Int) × (Int → Int) × (Int → Int) × (Int → Int) × Int)) (tr_m15 : Int → Int) (fi_m16 : Int → Int) (la_m17 : Int → Int) (sh_m18 : Int → Int) (ac_m19 : Int → Int) (no_m20 : Int) (v21 : Int) : Option (Int × (Int → Int) × (Int → Int) × (Int → Int) × (Int → Int) × (Int → Int) × Int) :=
  jck v21 v1 (if v21 ≤ v1 then k26_ tr_m15 fi_m16 la_m17 sh_m18 ac_m19 no_m20 else jb5 (f_X3_move fu tr_m15 fi_m16 la_m17 sh_m18 ac_m19 (v21 - 1) v21) (fun tr_m22 fi_m23 la_m24 sh_m25 ac_m26 => j26_ tr_m22 fi_m23 la_m24 sh_m25 ac_m26 no_m20 (v21 + (-1))))
def f_X3_add_L26 (fu : Nat) (v1 : Int) (k26_ : (Int → Int) → (Int → Int) → (Int → Int) → (Int → Int) → (Int → Int) → Int → Option (Int × (Int → Int) × (Int → Int) × (Int → Int) × (Int → Int) × (Int → Int) × Int)) : Nat → (Int → Int) → (Int → Int) → (Int → Int) → (Int → Int) → (Int → Int) → Int → Int → Option (Int × (Int → Int) × (Int → Int) × (Int → Int) × (Int → Int) × (Int → Int) × Int)
  | 0 => fun _ _ _ _ _ _ _ => none
  | n + 1 => f_X3_add_L26_b fu v1 k26_ (f_X3_add_L26 fu v1 k26_ n)
def f_X3_add (fu : Nat) (tr : Int → Int) (fi : Int → Int) (la : Int → Int) (sh : Int → Int) (ac : Int → Int) (no : Int) (x1 : Int) (x2 : Int) (x3 : Int) (x4 : Int) (x5 : Int) : Option (Int × (Int → Int) × (Int → Int) × (Int → Int) × (Int → Int) × (Int → Int) × Int) :=
  jck no 40 (if no < 40 then jb (f_X3_placeFor fu tr fi no x1 x2) (fun v1 => f_X3_add_L26 fu v1 (f_X3_add_X49 fu x1 x2 x3 x4 x5 v1) fu tr fi la sh ac no no) else some ((-4), tr, fi, la, sh, ac, no))
def f_X4_note (fu : Nat) (r_se : Int → Int) (r_tr : Int → Int) (r_fi : Int → Int) (r_la : Int → Int) (r_sh : Int → Int) (r_ac : Int → Int) (r_no : Int) (g_ol : Int) (g_si : Int) (k_se : Int → Int → Int) (k_tr : Int → Int → Int) (k_fi : Int → Int → Int) (k_la : Int → Int → Int) (k_sh : Int → Int → Int) (k_ac : Int → Int → Int) (k_no : Int → Int) (x1 : Int) (x2 : Int) (x3 : Int) : Option (Int × (Int → Int) × (Int → Int) × (Int → Int) × (Int → Int) × (Int → Int) × Int × Int × Int × (Int → Int → Int) × (Int → Int → Int) × (Int → Int → Int) × (Int → Int → Int) × (Int → Int → Int) × (Int → Int → Int) × (Int → Int)) :=
  jb (f_X4_isTrack fu x1) (fun v1 => jck v1 0 (if v1 ≠ 0 then jb (f_X4_isStep fu x2) (fun v2 => jck v2 0 (if v2 = 0 then some ((-2), r_tr, r_fi, r_la, r_sh, r_ac, r_no, g_ol, g_si, k_se, k_tr, k_fi, k_la, k_sh, k_ac, k_no) else jb (f_X4_isStep fu x3) (fun v3 => jck v3 0 (if v3 = 0 then some ((-2), r_tr, r_fi, r_la, r_sh, r_ac, r_no, g_ol, g_si, k_se, k_tr, k_fi, k_la, k_sh, k_ac, k_no) else jck x3 x2 (if x2 ≤ x3 then jb (f_X3_size fu r_no) (fun v4 => jck v4 40 (if v4 < 40 then jb (f_X3_isTaken fu r_tr r_fi r_la r_no x1 x2 x3) (fun v5 => jck v5 0 (if v5 = 0 then jb9 (f_X0_record fu g_ol g_si k_se k_tr k_fi k_la k_sh k_ac k_no r_se r_tr r_fi r_la r_sh r_ac r_no) (fun ol_m6 si_m7 k_se_m8 k_tr_m9 k_fi_m10 k_la_m11 k_sh_m12 k_ac_m13 k_no_m14 => jb7 (f_X3_add fu r_tr r_fi r_la r_sh r_ac r_no x1 x2 x3 0 0) (fun v15 tr_m16 fi_m17 la_m18 sh_m19 ac_m20 no_m21 => some (v15, tr_m16, fi_m17, la_m18, sh_m19, ac_m20, no_m21, ol_m6, si_m7, k_se_m8, k_tr_m9, k_fi_m10, k_la_m11, k_sh_m12, k_ac_m13, k_no_m14))) else some ((-5), r_tr, r_fi, r_la, r_sh, r_ac, r_no, g_ol, g_si, k_se, k_tr, k_fi, k_la, k_sh, k_ac, k_no))) else some ((-4), r_tr, r_fi, r_la, r_sh, r_ac, r_no, g_ol, g_si, k_se, k_tr, k_fi, k_la, k_sh, k_ac, k_no))) else some ((-2), r_tr, r_fi, r_la, r_sh, r_ac, r_no, g_ol, g_si, k_se, k_tr, k_fi, k_la, k_sh, k_ac, k_no)))))) else some ((-1), r_tr, r_fi, r_la, r_sh, r_ac, r_no, g_ol, g_si, k_se, k_tr, k_fi, k_la, k_sh, k_ac, k_no)))
def f_X3_remove_X34 (fu : Nat)  (tr_m2 : Int → Int) (fi_m3 : Int → Int) (la_m4 : Int → Int) (sh_m5 : Int → Int) (ac_m6 : Int → Int) (no_m7 : Int) : Option ((Int → Int) × (Int → Int) × (Int → Int) × (Int → Int) × (Int → Int) × Int) :=
  some (tr_m2, fi_m3, la_m4, sh_m5, ac_m6, (no_m7 - 1))
def f_X3_remove_L12_b (fu : Nat) (k12_ : (Int → Int) → (Int → Int) → (Int → Int) → (Int → Int) → (Int → Int) → Int → Option ((Int → Int) × (Int → Int) × (Int → Int) × (Int → Int) × (Int → Int) × Int)) (j12_ : (Int → Int) → (Int → Int) → (Int → Int) → (Int → Int) → (Int → Int) → Int → Int → Option ((Int → Int) × (Int → Int) × (Int → Int) × (Int → Int) × (Int → Int) × Int)) (tr_m8 : Int → Int) (fi_m9 : Int → Int) (la_m10 : Int → Int) (sh_m11 : Int → Int) (ac_m12 : Int → Int) (no_m13 : Int) (v14 : Int) : Option ((Int → Int) × (Int → Int) × (Int → Int) × (Int → Int) × (Int → Int) × Int) :=
  jck v14 no_m13 (if no_m13 ≤ v14 then k12_ tr_m8 fi_m9 la_m10 sh_m11 ac_m12 no_m13 else jb5 (f_X3_move fu tr_m8 fi_m9 la_m10 sh_m11 ac_m12 v14 (v14 - 1)) (fun tr_m15 fi_m16 la_m17 sh_m18 ac_m19 => j12_ tr_m15 fi_m16 la_m17 sh_m18 ac_m19 no_m13 (v14 + 1)))
def f_X3_remove_L12 (fu : Nat) (k12_ : (Int → Int) → (Int → Int) → (Int → Int) → (Int → Int) → (Int → Int) → Int → Option ((Int → Int) × (Int → Int) × (Int → Int) × (Int → Int) × (Int → Int) × Int)) : Nat → (Int → Int) → (Int → Int) → (Int → Int) → (Int → Int) → (Int → Int) → Int → Int → Option ((Int → Int) × (Int → Int) × (Int → Int) × (Int → Int) × (Int → Int) × Int)
  | 0 => fun _ _ _ _ _ _ _ => none
  | n + 1 => f_X3_remove_L12_b fu k12_ (f_X3_remove_L12 fu k12_ n)
def f_X3_remove (fu : Nat) (tr : Int → Int) (fi : Int → Int) (la : Int → Int) (sh : Int → Int) (ac : Int → Int) (no : Int) (x1 : Int) : Option ((Int → Int) × (Int → Int) × (Int → Int) × (Int → Int) × (Int → Int) × Int) :=
  jb (f_X3_has fu no x1) (fun v1 => jck v1 0 (if v1 = 0 then some (tr, fi, la, sh, ac, no) else f_X3_remove_L12 fu (f_X3_remove_X34 fu) fu tr fi la sh ac no (x1 + 1)))
def f_X4_drop (fu : Nat) (r_se : Int → Int) (r_tr : Int → Int) (r_fi : Int → Int) (r_la : Int → Int) (r_sh : Int → Int) (r_ac : Int → Int) (r_no : Int) (g_ol : Int) (g_si : Int) (k_se : Int → Int → Int) (k_tr : Int → Int → Int) (k_fi : Int → Int → Int) (k_la : Int → Int → Int) (k_sh : Int → Int → Int) (k_ac : Int → Int → Int) (k_no : Int → Int) (x1 : Int) : Option (Int × (Int → Int) × (Int → Int) × (Int → Int) × (Int → Int) × (Int → Int) × Int × Int × Int × (Int → Int → Int) × (Int → Int → Int) × (Int → Int → Int) × (Int → Int → Int) × (Int → Int → Int) × (Int → Int → Int) × (Int → Int)) :=
  jb (f_X3_has fu r_no x1) (fun v1 => jck v1 0 (if v1 ≠ 0 then jb9 (f_X0_record fu g_ol g_si k_se k_tr k_fi k_la k_sh k_ac k_no r_se r_tr r_fi r_la r_sh r_ac r_no) (fun ol_m2 si_m3 k_se_m4 k_tr_m5 k_fi_m6 k_la_m7 k_sh_m8 k_ac_m9 k_no_m10 => jb6 (f_X3_remove fu r_tr r_fi r_la r_sh r_ac r_no x1) (fun tr_m11 fi_m12 la_m13 sh_m14 ac_m15 no_m16 => jb (f_X3_size fu no_m16) (fun v17 => some (v17, tr_m11, fi_m12, la_m13, sh_m14, ac_m15, no_m16, ol_m2, si_m3, k_se_m4, k_tr_m5, k_fi_m6, k_la_m7, k_sh_m8, k_ac_m9, k_no_m10)))) else some ((-1), r_tr, r_fi, r_la, r_sh, r_ac, r_no, g_ol, g_si, k_se, k_tr, k_fi, k_la, k_sh, k_ac, k_no)))
def f_X3_shiftOf (fu : Nat) (sh : Int → Int) (no : Int) (x1 : Int) : Option (Int) :=
  jb (f_X3_has fu no x1) (fun v1 => jck v1 0 (if v1 = 0 then some 0 else jix 40 x1 (some (sh x1))))
def f_X3_giveShift (fu : Nat) (sh : Int → Int) (no : Int) (x1 : Int) (x2 : Int) : Option ((Int → Int)) :=
  jb (f_X3_has fu no x1) (fun v1 => jck v1 0 (if v1 = 0 then some sh else jix 40 x1 (some (uI sh x1 x2))))
def f_X4_shift (fu : Nat) (r_se : Int → Int) (r_tr : Int → Int) (r_fi : Int → Int) (r_la : Int → Int) (r_sh : Int → Int) (r_ac : Int → Int) (r_no : Int) (g_ol : Int) (g_si : Int) (k_se : Int → Int → Int) (k_tr : Int → Int → Int) (k_fi : Int → Int → Int) (k_la : Int → Int → Int) (k_sh : Int → Int → Int) (k_ac : Int → Int → Int) (k_no : Int → Int) (x1 : Int) (x2 : Int) : Option (Int × (Int → Int) × Int × Int × (Int → Int → Int) × (Int → Int → Int) × (Int → Int → Int) × (Int → Int → Int) × (Int → Int → Int) × (Int → Int → Int) × (Int → Int)) :=
  jb (f_X3_has fu r_no x1) (fun v1 => jck v1 0 (if v1 ≠ 0 then jb (f_X4_isIn fu x2 0 12) (fun v2 => jck v2 0 (if v2 ≠ 0 then jb (f_X3_shiftOf fu r_sh r_no x1) (fun v3 => jb9 (f_X0_record fu g_ol g_si k_se k_tr k_fi k_la k_sh k_ac k_no r_se r_tr r_fi r_la r_sh r_ac r_no) (fun ol_m4 si_m5 k_se_m6 k_tr_m7 k_fi_m8 k_la_m9 k_sh_m10 k_ac_m11 k_no_m12 => jb (f_X3_giveShift fu r_sh r_no x1 x2) (fun sh_m13 => some (v3, sh_m13, ol_m4, si_m5, k_se_m6, k_tr_m7, k_fi_m8, k_la_m9, k_sh_m10, k_ac_m11, k_no_m12)))) else some ((-2), r_sh, g_ol, g_si, k_se, k_tr, k_fi, k_la, k_sh, k_ac, k_no))) else some ((-1), r_sh, g_ol, g_si, k_se, k_tr, k_fi, k_la, k_sh, k_ac, k_no)))
def f_X3_hasAccent (fu : Nat) (ac : Int → Int) (no : Int) (x1 : Int) : Option (Int) :=
  jb (f_X3_has fu no x1) (fun v1 => jck v1 0 (if v1 = 0 then jbo 0 (some 0) else jix 40 x1 (jck (ac x1) 0 (if (ac x1) = 0 then jbo 0 (some 0) else jbo 1 (some 1)))))
def f_X3_giveAccent (fu : Nat) (ac : Int → Int) (no : Int) (x1 : Int) (x2 : Int) : Option ((Int → Int)) :=
  jb (f_X3_has fu no x1) (fun v1 => jck v1 0 (if v1 = 0 then some ac else jix 40 x1 (jbo x2 (some (uI ac x1 x2)))))
def f_X4_asNumber (fu : Nat) (x0 : Int) : Option (Int) :=
  jck x0 0 (if x0 = 0 then some 0 else some 1)
def f_X4_accent (fu : Nat) (r_se : Int → Int) (r_tr : Int → Int) (r_fi : Int → Int) (r_la : Int → Int) (r_sh : Int → Int) (r_ac : Int → Int) (r_no : Int) (g_ol : Int) (g_si : Int) (k_se : Int → Int → Int) (k_tr : Int → Int → Int) (k_fi : Int → Int → Int) (k_la : Int → Int → Int) (k_sh : Int → Int → Int) (k_ac : Int → Int → Int) (k_no : Int → Int) (x1 : Int) (x2 : Int) : Option (Int × (Int → Int) × Int × Int × (Int → Int → Int) × (Int → Int → Int) × (Int → Int → Int) × (Int → Int → Int) × (Int → Int → Int) × (Int → Int → Int) × (Int → Int)) :=
  jb (f_X3_has fu r_no x1) (fun v1 => jck v1 0 (if v1 ≠ 0 then jb (f_X3_hasAccent fu r_ac r_no x1) (fun v2 => jb9 (f_X0_record fu g_ol g_si k_se k_tr k_fi k_la k_sh k_ac k_no r_se r_tr r_fi r_la r_sh r_ac r_no) (fun ol_m3 si_m4 k_se_m5 k_tr_m6 k_fi_m7 k_la_m8 k_sh_m9 k_ac_m10 k_no_m11 => jb (f_X3_giveAccent fu r_ac r_no x1 x2) (fun ac_m12 => jb (f_X4_asNumber fu v2) (fun v13 => some (v13, ac_m12, ol_m3, si_m4, k_se_m5, k_tr_m6, k_fi_m7, k_la_m8, k_sh_m9, k_ac_m10, k_no_m11))))) else some ((-1), r_ac, g_ol, g_si, k_se, k_tr, k_fi, k_la, k_sh, k_ac, k_no)))
def f_X3_greatestLast_X28 (fu : Nat)  (v1 : Int) : Option (Int) :=
  some v1
def f_X3_greatestLast_L4_b (fu : Nat) (la : Int → Int) (no : Int) (k4_ : Int → Option (Int)) (j4_ : Int → Int → Option (Int)) (v2 : Int) (v3 : Int) : Option (Int) :=
  jck v3 no (if no ≤ v3 then k4_ v2 else jb (f_X3_lastOf fu la no v3) (fun v4 => jck v2 v4 (j4_ (jmax v2 v4) (v3 + 1))))
def f_X3_greatestLast_L4 (fu : Nat) (la : Int → Int) (no : Int) (k4_ : Int → Option (Int)) : Nat → Int → Int → Option (Int)
  | 0 => fun _ _ => none
  | n + 1 => f_X3_greatestLast_L4_b fu la no k4_ (f_X3_greatestLast_L4 fu la no k4_ n)
def f_X3_greatestLast (fu : Nat) (la : Int → Int) (no : Int) : Option (Int) :=
  f_X3_greatestLast_L4 fu la no (f_X3_greatestLast_X28 fu) fu (-1) 0
def f_X3_lengthen_X88 (fu : Nat)  (fi_m1 : Int → Int) (la_m2 : Int → Int) (v3 : Int) : Option (Int × (Int → Int) × (Int → Int)) :=
  some (v3, fi_m1, la_m2)
def f_X3_lengthen_L5_b (fu : Nat) (no : Int) (x1 : Int) (x2 : Int) (k5_ : (Int → Int) → (Int → Int) → Int → Option (Int × (Int → Int) × (Int → Int))) (j5_ : (Int → Int) → (Int → Int) → Int → Int → Option (Int × (Int → Int) × (Int → Int))) (fi_m4 : Int → Int) (la_m5 : Int → Int) (v6 : Int) (v7 : Int) : Option (Int × (Int → Int) × (Int → Int)) :=
  jck v7 no (if no ≤ v7 then k5_ fi_m4 la_m5 v6 else jck v7 40 (if 40 ≤ v7 then k5_ fi_m4 la_m5 v6 else jix 40 v7 (jck (fi_m4 v7) x1 (if (fi_m4 v7) < x1 then jix 40 v7 (jck (la_m5 v7) x1 (if (la_m5 v7) < x1 then j5_ fi_m4 la_m5 v6 (v7 + 1) else jix 40 v7 (jix 40 v7 (j5_ fi_m4 (uI la_m5 v7 ((la_m5 v7) + x2)) (v6 + 1) (v7 + 1))))) else jix 40 v7 (jix 40 v7 (jix 40 v7 (jix 40 v7 (j5_ (uI fi_m4 v7 ((fi_m4 v7) + x2)) (uI la_m5 v7 ((la_m5 v7) + x2)) v6 (v7 + 1)))))))))
def f_X3_lengthen_L5 (fu : Nat) (no : Int) (x1 : Int) (x2 : Int) (k5_ : (Int → Int) → (Int → Int) → Int → Option (Int × (Int → Int) × (Int → Int))) : Nat → (Int → Int) → (Int → Int) → Int → Int → Option (Int × (Int → Int) × (Int → Int))
  | 0 => fun _ _ _ _ => none
  | n + 1 => f_X3_lengthen_L5_b fu no x1 x2 k5_ (f_X3_lengthen_L5 fu no x1 x2 k5_ n)
def f_X3_lengthen (fu : Nat) (fi : Int → Int) (la : Int → Int) (no : Int) (x1 : Int) (x2 : Int) : Option (Int × (Int → Int) × (Int → Int)) :=
  f_X3_lengthen_L5 fu no x1 x2 (f_X3_lengthen_X88 fu) fu fi la 0 0
def f_X4_insert_J44 (fu : Nat) (r_se : Int → Int) (r_tr : Int → Int) (r_fi : Int → Int) (r_la : Int → Int) (r_sh : Int → Int) (r_ac : Int → Int) (r_no : Int) (g_ol : Int) (g_si : Int) (k_se : Int → Int → Int) (k_tr : Int → Int → Int) (k_fi : Int → Int → Int) (k_la : Int → Int → Int) (k_sh : Int → Int → Int) (k_ac : Int → Int → Int) (k_no : Int → Int) (x1 : Int) (x2 : Int)  : Option (Int × (Int → Int) × (Int → Int) × Int × Int × (Int → Int → Int) × (Int → Int → Int) × (Int → Int → Int) × (Int → Int → Int) × (Int → Int → Int) × (Int → Int → Int) × (Int → Int)) :=
  jb9 (f_X0_record fu g_ol g_si k_se k_tr k_fi k_la k_sh k_ac k_no r_se r_tr r_fi r_la r_sh r_ac r_no) (fun ol_m4 si_m5 k_se_m6 k_tr_m7 k_fi_m8 k_la_m9 k_sh_m10 k_ac_m11 k_no_m12 => jb3 (f_X3_lengthen fu r_fi r_la r_no x1 x2) (fun v13 fi_m14 la_m15 => some (v13, fi_m14, la_m15, ol_m4, si_m5, k_se_m6, k_tr_m7, k_fi_m8, k_la_m9, k_sh_m10, k_ac_m11, k_no_m12)))
def f_X4_insert (fu : Nat) (r_se : Int → Int) (r_tr : Int → Int) (r_fi : Int → Int) (r_la : Int → Int) (r_sh : Int → Int) (r_ac : Int → Int) (r_no : Int) (g_ol : Int) (g_si : Int) (k_se : Int → Int → Int) (k_tr : Int → Int → Int) (k_fi : Int → Int → Int) (k_la : Int → Int → Int) (k_sh : Int → Int → Int) (k_ac : Int → Int → Int) (k_no : Int → Int) (x1 : Int) (x2 : Int) : Option (Int × (Int → Int) × (Int → Int) × Int × Int × (Int → Int → Int) × (Int → Int → Int) × (Int → Int → Int) × (Int → Int → Int) × (Int → Int → Int) × (Int → Int → Int) × (Int → Int)) :=
  jb (f_X4_isStep fu x1) (fun v1 => jck v1 0 (if v1 = 0 then some ((-2), r_fi, r_la, g_ol, g_si, k_se, k_tr, k_fi, k_la, k_sh, k_ac, k_no) else jb (f_X4_isIn fu x2 1 50) (fun v2 => jck v2 0 (if v2 ≠ 0 then jb (f_X3_greatestLast fu r_la r_no) (fun v3 => jck v3 x1 (if v3 < x1 then f_X4_insert_J44 fu r_se r_tr r_fi r_la r_sh r_ac r_no g_ol g_si k_se k_tr k_fi k_la k_sh k_ac k_no x1 x2 else jck (v3 + x2) 100 (if (v3 + x2) < 100 then f_X4_insert_J44 fu r_se r_tr r_fi r_la r_sh r_ac r_no g_ol g_si k_se k_tr k_fi k_la k_sh k_ac k_no x1 x2 else some ((-5), r_fi, r_la, g_ol, g_si, k_se, k_tr, k_fi, k_la, k_sh, k_ac, k_no)))) else some ((-2), r_fi, r_la, g_ol, g_si, k_se, k_tr, k_fi, k_la, k_sh, k_ac, k_no)))))
def f_X3_takeCut_X130 (fu : Nat)  (tr_m1 : Int → Int) (fi_m2 : Int → Int) (la_m3 : Int → Int) (sh_m4 : Int → Int) (ac_m5 : Int → Int) (no_m6 : Int) : Option ((Int → Int) × (Int → Int) × (Int → Int) × (Int → Int) × (Int → Int) × Int) :=
  some (tr_m1, fi_m2, la_m3, sh_m4, ac_m5, no_m6)
def f_X3_takeCut_J95 (fu : Nat) (o_tr : Int → Int) (o_sh : Int → Int) (o_ac : Int → Int) (o_no : Int) (tr_m7 : Int → Int) (fi_m8 : Int → Int) (la_m9 : Int → Int) (sh_m10 : Int → Int) (ac_m11 : Int → Int) (no_m12 : Int) (v13 : Int) (v14 : Int) (v18 : Int) (j13_ : (Int → Int) → (Int → Int) → (Int → Int) → (Int → Int) → (Int → Int) → Int → Int → Int → Option ((Int → Int) × (Int → Int) × (Int → Int) × (Int → Int) × (Int → Int) × Int)) (v19 : Int) : Option ((Int → Int) × (Int → Int) × (Int → Int) × (Int → Int) × (Int → Int) × Int) :=
  jb (f_X3_trackOf fu o_tr o_no v14) (fun v20 => jb (f_X3_shiftOf fu o_sh o_no v14) (fun v21 => jb (f_X3_hasAccent fu o_ac o_no v14) (fun v22 => jb7 (f_X3_add fu tr_m7 fi_m8 la_m9 sh_m10 ac_m11 no_m12 v20 v18 v19 v21 v22) (fun v23 tr_m24 fi_m25 la_m26 sh_m27 ac_m28 no_m29 => j13_ tr_m24 fi_m25 la_m26 sh_m27 ac_m28 no_m29 v13 (v14 + 1)))))
def f_X3_takeCut_J71 (fu : Nat) (o_tr : Int → Int) (o_sh : Int → Int) (o_ac : Int → Int) (o_no : Int) (x2 : Int) (x3 : Int) (tr_m7 : Int → Int) (fi_m8 : Int → Int) (la_m9 : Int → Int) (sh_m10 : Int → Int) (ac_m11 : Int → Int) (no_m12 : Int) (v13 : Int) (v14 : Int) (v17 : Int) (j13_ : (Int → Int) → (Int → Int) → (Int → Int) → (Int → Int) → (Int → Int) → Int → Int → Int → Option ((Int → Int) × (Int → Int) × (Int → Int) × (Int → Int) × (Int → Int) × Int)) (v18 : Int) : Option ((Int → Int) × (Int → Int) × (Int → Int) × (Int → Int) × (Int → Int) × Int) :=
  jck v17 v13 (if v13 ≤ v17 then f_X3_takeCut_J95 fu o_tr o_sh o_ac o_no tr_m7 fi_m8 la_m9 sh_m10 ac_m11 no_m12 v13 v14 v18 j13_ (v17 - x3) else jck v17 (x2 - 1) (f_X3_takeCut_J95 fu o_tr o_sh o_ac o_no tr_m7 fi_m8 la_m9 sh_m10 ac_m11 no_m12 v13 v14 v18 j13_ (jmin v17 (x2 - 1))))
def f_X3_takeCut_J51 (fu : Nat) (o_tr : Int → Int) (o_sh : Int → Int) (o_ac : Int → Int) (o_no : Int) (x2 : Int) (x3 : Int) (tr_m7 : Int → Int) (fi_m8 : Int → Int) (la_m9 : Int → Int) (sh_m10 : Int → Int) (ac_m11 : Int → Int) (no_m12 : Int) (v13 : Int) (v14 : Int) (v16 : Int) (v17 : Int) (j13_ : (Int → Int) → (Int → Int) → (Int → Int) → (Int → Int) → (Int → Int) → Int → Int → Int → Option ((Int → Int) × (Int → Int) × (Int → Int) × (Int → Int) × (Int → Int) × Int))  : Option ((Int → Int) × (Int → Int) × (Int → Int) × (Int → Int) × (Int → Int) × Int) :=
  jck v16 x2 (if x2 ≤ v16 then jck v16 v13 (f_X3_takeCut_J71 fu o_tr o_sh o_ac o_no x2 x3 tr_m7 fi_m8 la_m9 sh_m10 ac_m11 no_m12 v13 v14 v17 j13_ ((jmax v16 v13) - x3)) else f_X3_takeCut_J71 fu o_tr o_sh o_ac o_no x2 x3 tr_m7 fi_m8 la_m9 sh_m10 ac_m11 no_m12 v13 v14 v17 j13_ v16)
def f_X3_takeCut_L13_b (fu : Nat) (o_tr : Int → Int) (o_fi : Int → Int) (o_la : Int → Int) (o_sh : Int → Int) (o_ac : Int → Int) (o_no : Int) (x2 : Int) (x3 : Int) (k13_ : (Int → Int) → (Int → Int) → (Int → Int) → (Int → Int) → (Int → Int) → Int → Option ((Int → Int) × (Int → Int) × (Int → Int) × (Int → Int) × (Int → Int) × Int)) (j13_ : (Int → Int) → (Int → Int) → (Int → Int) → (Int → Int) → (Int → Int) → Int → Int → Int → Option ((Int → Int) × (Int → Int) × (Int → Int) × (Int → Int) × (Int → Int) × Int)) (tr_m7 : Int → Int) (fi_m8 : Int → Int) (la_m9 : Int → Int) (sh_m10 : Int → Int) (ac_m11 : Int → Int) (no_m12 : Int) (v13 : Int) (v14 : Int) : Option ((Int → Int) × (Int → Int) × (Int → Int) × (Int → Int) × (Int → Int) × Int) :=
  jb (f_X3_size fu o_no) (fun v15 => jck v14 v15 (if v15 ≤ v14 then k13_ tr_m7 fi_m8 la_m9 sh_m10 ac_m11 no_m12 else jb (f_X3_firstOf fu o_fi o_no v14) (fun v16 => jb (f_X3_lastOf fu o_la o_no v14) (fun v17 => jck v16 x2 (if v16 < x2 then f_X3_takeCut_J51 fu o_tr o_sh o_ac o_no x2 x3 tr_m7 fi_m8 la_m9 sh_m10 ac_m11 no_m12 v13 v14 v16 v17 j13_ else jck v17 v13 (if v17 < v13 then j13_ tr_m7 fi_m8 la_m9 sh_m10 ac_m11 no_m12 v13 (v14 + 1) else f_X3_takeCut_J51 fu o_tr o_sh o_ac o_no x2 x3 tr_m7 fi_m8 la_m9 sh_m10 ac_m11 no_m12 v13 v14 v16 v17 j13_))))))
def f_X3_takeCut_L13 (fu : Nat) (o_tr : Int → Int) (o_fi : Int → Int) (o_la : Int → Int) (o_sh : Int → Int) (o_ac : Int → Int) (o_no : Int) (x2 : Int) (x3 : Int) (k13_ : (Int → Int) → (Int → Int) → (Int → Int) → (Int → Int) → (Int → Int) → Int → Option ((Int → Int) × (Int → Int) × (Int → Int) × (Int → Int) × (Int → Int) × Int)) : Nat → (Int → Int) → (Int → Int) → (Int → Int) → (Int → Int) → (Int → Int) → Int → Int → Int → Option ((Int → Int) × (Int → Int) × (Int → Int) × (Int → Int) × (Int → Int) × Int)
  | 0 => fun _ _ _ _ _ _ _ _ => none
  | n + 1 => f_X3_takeCut_L13_b fu o_tr o_fi o_la o_sh o_ac o_no x2 x3 k13_ (f_X3_takeCut_L13 fu o_tr o_fi o_la o_sh o_ac o_no x2 x3 k13_ n)
def f_X3_takeCut (fu : Nat) (tr : Int → Int) (fi : Int → Int) (la : Int → Int) (sh : Int → Int) (ac : Int → Int) (no : Int) (o_tr : Int → Int) (o_fi : Int → Int) (o_la : Int → Int) (o_sh : Int → Int) (o_ac : Int → Int) (o_no : Int) (x2 : Int) (x3 : Int) : Option ((Int → Int) × (Int → Int) × (Int → Int) × (Int → Int) × (Int → Int) × Int) :=
  f_X3_takeCut_L13 fu o_tr o_fi o_la o_sh o_ac o_no x2 x3 (f_X3_takeCut_X130 fu) fu tr fi la sh ac 0 (x2 + x3) 0
def f_X4_cut (fu : Nat) (r_se : Int → Int) (r_tr : Int → Int) (r_fi : Int → Int) (r_la : Int → Int) (r_sh : Int → Int) (r_ac : Int → Int) (r_no : Int) (u_se : Int → Int) (u_tr : Int → Int) (u_fi : Int → Int) (u_la : Int → Int) (u_sh : Int → Int) (u_ac : Int → Int) (u_no : Int) (g_ol : Int) (g_si : Int) (k_se : Int → Int → Int) (k_tr : Int → Int → Int) (k_fi : Int → Int → Int) (k_la : Int → Int → Int) (k_sh : Int → Int → Int) (k_ac : Int → Int → Int) (k_no : Int → Int) (x1 : Int) (x2 : Int) : Option (Int × (Int → Int) × (Int → Int) × (Int → Int) × (Int → Int) × (Int → Int) × (Int → Int) × Int × (Int → Int) × (Int → Int) × (Int → Int) × (Int → Int) × (Int → Int) × (Int → Int) × Int × Int × Int × (Int → Int → Int) × (Int → Int → Int) × (Int → Int → Int) × (Int → Int → Int) × (Int → Int → Int) × (Int → Int → Int) × (Int → Int)) :=
  jb (f_X4_isStep fu x1) (fun v1 => jck v1 0 (if v1 = 0 then some ((-2), r_se, r_tr, r_fi, r_la, r_sh, r_ac, r_no, u_se, u_tr, u_fi, u_la, u_sh, u_ac, u_no, g_ol, g_si, k_se, k_tr, k_fi, k_la, k_sh, k_ac, k_no) else jb (f_X4_isIn fu x2 1 (100 - x1)) (fun v2 => jck v2 0 (if v2 ≠ 0 then jb (f_X3_size fu r_no) (fun v3 => jb9 (f_X0_record fu g_ol g_si k_se k_tr k_fi k_la k_sh k_ac k_no r_se r_tr r_fi r_la r_sh r_ac r_no) (fun ol_m4 si_m5 k_se_m6 k_tr_m7 k_fi_m8 k_la_m9 k_sh_m10 k_ac_m11 k_no_m12 => jb (f_X3_takeSettings fu u_se r_se) (fun se_m13 => jb6 (f_X3_takeCut fu u_tr u_fi u_la u_sh u_ac u_no r_tr r_fi r_la r_sh r_ac r_no x1 x2) (fun tr_m14 fi_m15 la_m16 sh_m17 ac_m18 no_m19 => jb7 (f_X3_become fu r_se r_tr r_fi r_la r_sh r_ac r_no se_m13 tr_m14 fi_m15 la_m16 sh_m17 ac_m18 no_m19) (fun se_m20 tr_m21 fi_m22 la_m23 sh_m24 ac_m25 no_m26 => jb (f_X3_size fu no_m26) (fun v27 => some ((v3 - v27), se_m20, tr_m21, fi_m22, la_m23, sh_m24, ac_m25, no_m26, se_m13, tr_m14, fi_m15, la_m16, sh_m17, ac_m18, no_m19, ol_m4, si_m5, k_se_m6, k_tr_m7, k_fi_m8, k_la_m9, k_sh_m10, k_ac_m11, k_no_m12))))))) else some ((-2), r_se, r_tr, r_fi, r_la, r_sh, r_ac, r_no, u_se, u_tr, u_fi, u_la, u_sh, u_ac, u_no, g_ol, g_si, k_se, k_tr, k_fi, k_la, k_sh, k_ac, k_no)))))
def f_X4_isPassage (fu : Nat) (x0 : Int) (x1 : Int) : Option (Int) :=
  jb (f_X4_isStep fu x0) (fun v1 => jck v1 0 (if v1 = 0 then jbo 0 (some 0) else jb (f_X4_isStep fu x1) (fun v2 => jck v2 0 (if v2 = 0 then jbo 0 (some 0) else jck x0 x1 (if x1 < x0 then jbo 0 (some 0) else jbo 1 (some 1))))))
def f_X3_liesWithin (fu : Nat) (fi : Int → Int) (la : Int → Int) (no : Int) (x1 : Int) (x2 : Int) (x3 : Int) : Option (Int) :=
  jb (f_X3_has fu no x1) (fun v1 => jck v1 0 (if v1 = 0 then jbo 0 (some 0) else jb (f_X3_firstOf fu fi no x1) (fun v2 => jck v2 x2 (if v2 < x2 then jbo 0 (some 0) else jb (f_X3_lastOf fu la no x1) (fun v3 => jck v3 x3 (if x3 < v3 then jbo 0 (some 0) else jbo 1 (some 1)))))))
def f_X3_within_X34 (fu : Nat)  (v1 : Int) : Option (Int) :=
  some v1
def f_X3_within_L5_b (fu : Nat) (fi : Int → Int) (la : Int → Int) (no : Int) (x1 : Int) (x2 : Int) (k5_ : Int → Option (Int)) (j5_ : Int → Int → Option (Int)) (v2 : Int) (v3 : Int) : Option (Int) :=
  jck v3 no (if no ≤ v3 then k5_ v2 else jb (f_X3_liesWithin fu fi la no v3 x1 x2) (fun v4 => jck v4 0 (if v4 = 0 then j5_ v2 (v3 + 1) else j5_ (v2 + 1) (v3 + 1))))
def f_X3_within_L5 (fu : Nat) (fi : Int → Int) (la : Int → Int) (no : Int) (x1 : Int) (x2 : Int) (k5_ : Int → Option (Int)) : Nat → Int → Int → Option (Int)
  | 0 => fun _ _ => none
  | n + 1 => f_X3_within_L5_b fu fi la no x1 x2 k5_ (f_X3_within_L5 fu fi la no x1 x2 k5_ n)
def f_X3_within (fu : Nat) (fi : Int → Int) (la : Int → Int) (no : Int) (x1 : Int) (x2 : Int) : Option (Int) :=
  f_X3_within_L5 fu fi la no x1 x2 (f_X3_within_X34 fu) fu 0 0
def f_X4_isFreeAt_X97 (fu : Nat)   : Option (Int) :=
  jbo 1 (some 1)
def f_X4_isFreeAt_L3_b (fu : Nat) (r_tr : Int → Int) (r_fi : Int → Int) (r_la : Int → Int) (r_no : Int) (x1 : Int) (x2 : Int) (x3 : Int) (k3_ : Option (Int)) (j3_ : Int → Option (Int)) (v1 : Int) : Option (Int) :=
  jb (f_X3_size fu r_no) (fun v2 => jck v1 v2 (if v2 ≤ v1 then k3_ else jb (f_X3_liesWithin fu r_fi r_la r_no v1 x1 x2) (fun v3 => jck v3 0 (if v3 = 0 then j3_ (v1 + 1) else jb (f_X3_firstOf fu r_fi r_no v1) (fun v4 => jb (f_X3_lastOf fu r_la r_no v1) (fun v5 => jck ((v5 - x1) + x3) 100 (if 100 ≤ ((v5 - x1) + x3) then jbo 0 (some 0) else jb (f_X3_trackOf fu r_tr r_no v1) (fun v6 => jb (f_X3_isTaken fu r_tr r_fi r_la r_no v6 ((v4 - x1) + x3) ((v5 - x1) + x3)) (fun v7 => jck v7 0 (if v7 = 0 then j3_ (v1 + 1) else jbo 0 (some 0)))))))))))
def f_X4_isFreeAt_L3 (fu : Nat) (r_tr : Int → Int) (r_fi : Int → Int) (r_la : Int → Int) (r_no : Int) (x1 : Int) (x2 : Int) (x3 : Int) (k3_ : Option (Int)) : Nat → Int → Option (Int)
  | 0 => fun _ => none
  | n + 1 => f_X4_isFreeAt_L3_b fu r_tr r_fi r_la r_no x1 x2 x3 k3_ (f_X4_isFreeAt_L3 fu r_tr r_fi r_la r_no x1 x2 x3 k3_ n)
def f_X4_isFreeAt (fu : Nat) (r_tr : Int → Int) (r_fi : Int → Int) (r_la : Int → Int) (r_no : Int) (x1 : Int) (x2 : Int) (x3 : Int) : Option (Int) :=
  f_X4_isFreeAt_L3 fu r_tr r_fi r_la r_no x1 x2 x3 (f_X4_isFreeAt_X97 fu) fu 0
def f_X3_addPassage_X82 (fu : Nat)  (tr_m1 : Int → Int) (fi_m2 : Int → Int) (la_m3 : Int → Int) (sh_m4 : Int → Int) (ac_m5 : Int → Int) (no_m6 : Int) : Option ((Int → Int) × (Int → Int) × (Int → Int) × (Int → Int) × (Int → Int) × Int) :=
  some (tr_m1, fi_m2, la_m3, sh_m4, ac_m5, no_m6)
def f_X3_addPassage_L3_b (fu : Nat) (o_tr : Int → Int) (o_fi : Int → Int) (o_la : Int → Int) (o_sh : Int → Int) (o_ac : Int → Int) (o_no : Int) (x2 : Int) (x3 : Int) (x4 : Int) (k3_ : (Int → Int) → (Int → Int) → (Int → Int) → (Int → Int) → (Int → Int) → Int → Option ((Int → Int) × (Int → Int) × (Int → Int) × (Int → Int) × (Int → Int) × Int)) (j3_ : (Int → Int) → (Int → Int) → (Int → Int) → (Int → Int) → (Int → Int) → Int → Int → Option ((Int → Int) × (Int → Int) × (Int → Int) × (Int → Int) × (Int → Int) × Int)) (tr_m7 : Int → Int) (fi_m8 : Int → Int) (la_m9 : Int → Int) (sh_m10 : Int → Int) (ac_m11 : Int → Int) (no_m12 : Int) (v13 : Int) : Option ((Int → Int) × (Int → Int) × (Int → Int) × (Int → Int) × (Int → Int) × Int) :=
  jb (f_X3_size fu o_no) (fun v14 => jck v13 v14 (if v14 ≤ v13 then k3_ tr_m7 fi_m8 la_m9 sh_m10 ac_m11 no_m12 else jb (f_X3_liesWithin fu o_fi o_la o_no v13 x2 x3) (fun v15 => jck v15 0 (if v15 = 0 then j3_ tr_m7 fi_m8 la_m9 sh_m10 ac_m11 no_m12 (v13 + 1) else jb (f_X3_firstOf fu o_fi o_no v13) (fun v16 => jb (f_X3_lastOf fu o_la o_no v13) (fun v17 => jb (f_X3_trackOf fu o_tr o_no v13) (fun v18 => jb (f_X3_shiftOf fu o_sh o_no v13) (fun v19 => jb (f_X3_hasAccent fu o_ac o_no v13) (fun v20 => jb7 (f_X3_add fu tr_m7 fi_m8 la_m9 sh_m10 ac_m11 no_m12 v18 ((v16 - x2) + x4) ((v17 - x2) + x4) v19 v20) (fun v21 tr_m22 fi_m23 la_m24 sh_m25 ac_m26 no_m27 => j3_ tr_m22 fi_m23 la_m24 sh_m25 ac_m26 no_m27 (v13 + 1)))))))))))
def f_X3_addPassage_L3 (fu : Nat) (o_tr : Int → Int) (o_fi : Int → Int) (o_la : Int → Int) (o_sh : Int → Int) (o_ac : Int → Int) (o_no : Int) (x2 : Int) (x3 : Int) (x4 : Int) (k3_ : (Int → Int) → (Int → Int) → (Int → Int) → (Int → Int) → (Int → Int) → Int → Option ((Int → Int) × (Int → Int) × (Int → Int) × (Int → Int) × (Int → Int) × Int)) : Nat → (Int → Int) → (Int → Int) → (Int → Int) → (Int → Int) → (Int → Int) → Int → Int → Option ((Int → Int) × (Int → Int) × (Int → Int) × (Int → Int) × (Int → Int) × Int)
  | 0 => fun _ _ _ _ _ _ _ => none
  | n + 1 => f_X3_addPassage_L3_b fu o_tr o_fi o_la o_sh o_ac o_no x2 x3 x4 k3_ (f_X3_addPassage_L3 fu o_tr o_fi o_la o_sh o_ac o_no x2 x3 x4 k3_ n)
def f_X3_addPassage (fu : Nat) (tr : Int → Int) (fi : Int → Int) (la : Int → Int) (sh : Int → Int) (ac : Int → Int) (no : Int) (o_tr : Int → Int) (o_fi : Int → Int) (o_la : Int → Int) (o_sh : Int → Int) (o_ac : Int → Int) (o_no : Int) (x2 : Int) (x3 : Int) (x4 : Int) : Option ((Int → Int) × (Int → Int) × (Int → Int) × (Int → Int) × (Int → Int) × Int) :=
  f_X3_addPassage_L3 fu o_tr o_fi o_la o_sh o_ac o_no x2 x3 x4 (f_X3_addPassage_X82 fu) fu tr fi la sh ac no 0
def f_X4_copy (fu : Nat) (r_se : Int → Int) (r_tr : Int → Int) (r_fi : Int → Int) (r_la : Int → Int) (r_sh : Int → Int) (r_ac : Int → Int) (r_no : Int) (u_se : Int → Int) (u_tr : Int → Int) (u_fi : Int → Int) (u_la : Int → Int) (u_sh : Int → Int) (u_ac : Int → Int) (u_no : Int) (g_ol : Int) (g_si : Int) (k_se : Int → Int → Int) (k_tr : Int → Int → Int) (k_fi : Int → Int → Int) (k_la : Int → Int → Int) (k_sh : Int → Int → Int) (k_ac : Int → Int → Int) (k_no : Int → Int) (x1 : Int) (x2 : Int) (x3 : Int) : Option (Int × (Int → Int) × (Int → Int) × (Int → Int) × (Int → Int) × (Int → Int) × (Int → Int) × Int × (Int → Int) × (Int → Int) × (Int → Int) × (Int → Int) × (Int → Int) × (Int → Int) × Int × Int × Int × (Int → Int → Int) × (Int → Int → Int) × (Int → Int → Int) × (Int → Int → Int) × (Int → Int → Int) × (Int → Int → Int) × (Int → Int)) :=
  jb (f_X4_isPassage fu x1 x2) (fun v1 => jck v1 0 (if v1 = 0 then some ((-2), r_se, r_tr, r_fi, r_la, r_sh, r_ac, r_no, u_se, u_tr, u_fi, u_la, u_sh, u_ac, u_no, g_ol, g_si, k_se, k_tr, k_fi, k_la, k_sh, k_ac, k_no) else jb (f_X4_isStep fu x3) (fun v2 => jck v2 0 (if v2 ≠ 0 then jb (f_X3_within fu r_fi r_la r_no x1 x2) (fun v3 => jb (f_X3_size fu r_no) (fun v4 => jck (v4 + v3) 40 (if (v4 + v3) ≤ 40 then jb (f_X4_isFreeAt fu r_tr r_fi r_la r_no x1 x2 x3) (fun v5 => jck v5 0 (if v5 ≠ 0 then jb9 (f_X0_record fu g_ol g_si k_se k_tr k_fi k_la k_sh k_ac k_no r_se r_tr r_fi r_la r_sh r_ac r_no) (fun ol_m6 si_m7 k_se_m8 k_tr_m9 k_fi_m10 k_la_m11 k_sh_m12 k_ac_m13 k_no_m14 => jb7 (f_X3_become fu u_se u_tr u_fi u_la u_sh u_ac u_no r_se r_tr r_fi r_la r_sh r_ac r_no) (fun se_m15 tr_m16 fi_m17 la_m18 sh_m19 ac_m20 no_m21 => jb6 (f_X3_addPassage fu tr_m16 fi_m17 la_m18 sh_m19 ac_m20 no_m21 r_tr r_fi r_la r_sh r_ac r_no x1 x2 x3) (fun tr_m22 fi_m23 la_m24 sh_m25 ac_m26 no_m27 => jb7 (f_X3_become fu r_se r_tr r_fi r_la r_sh r_ac r_no se_m15 tr_m22 fi_m23 la_m24 sh_m25 ac_m26 no_m27) (fun se_m28 tr_m29 fi_m30 la_m31 sh_m32 ac_m33 no_m34 => some (v3, se_m28, tr_m29, fi_m30, la_m31, sh_m32, ac_m33, no_m34, se_m15, tr_m22, fi_m23, la_m24, sh_m25, ac_m26, no_m27, ol_m6, si_m7, k_se_m8, k_tr_m9, k_fi_m10, k_la_m11, k_sh_m12, k_ac_m13, k_no_m14))))) else some ((-5), r_se, r_tr, r_fi, r_la, r_sh, r_ac, r_no, u_se, u_tr, u_fi, u_la, u_sh, u_ac, u_no, g_ol, g_si, k_se, k_tr, k_fi, k_la, k_sh, k_ac, k_no))) else some ((-4), r_se, r_tr, r_fi, r_la, r_sh, r_ac, r_no, u_se, u_tr, u_fi, u_la, u_sh, u_ac, u_no, g_ol, g_si, k_se, k_tr, k_fi, k_la, k_sh, k_ac, k_no)))) else some ((-2), r_se, r_tr, r_fi, r_la, r_sh, r_ac, r_no, u_se, u_tr, u_fi, u_la, u_sh, u_ac, u_no, g_ol, g_si, k_se, k_tr, k_fi, k_la, k_sh, k_ac, k_no)))))
def f_X1_current (fu : Nat) (tx : Int → Int) (le : Int) (po : Int) : Option (Int) :=
  jck po 0 (if po < 0 then jch 0 (some 0) else jck po le (if le ≤ po then jch 0 (some 0) else jck po 60 (if 60 ≤ po then jch 0 (some 0) else jix 60 po (jch (tx po) (some (tx po))))))
def f_X1_digit (fu : Nat) (tx : Int → Int) (le : Int) (po : Int) : Option (Int) :=
  jb (f_X1_current fu tx le po) (fun v1 => jck v1 48 (if v1 < 48 then some (-1) else jck v1 57 (if 57 < v1 then some (-1) else some (v1 - 48))))
def f_X1_scanNumber_X79 (fu : Nat)  (po_m2 : Int) (v3 : Int) : Option (Int × Int) :=
  some (v3, po_m2)
def f_X1_scanNumber_L21_b (fu : Nat) (tx : Int → Int) (le : Int) (x1 : Int) (k21_ : Int → Int → Option (Int × Int)) (j21_ : Int → Int → Option (Int × Int)) (po_m4 : Int) (v5 : Int) : Option (Int × Int) :=
  jck po_m4 le (if le ≤ po_m4 then k21_ po_m4 v5 else jck v5 0 (if v5 ≤ 0 then k21_ po_m4 v5 else jb (f_X1_digit fu tx le po_m4) (fun v6 => jck v6 0 (if v6 < 0 then k21_ po_m4 v5 else jb (f_X1_digit fu tx le po_m4) (fun v7 => jck ((10 * v5) + v7) x1 (if x1 < ((10 * v5) + v7) then k21_ po_m4 v5 else jb (f_X1_digit fu tx le po_m4) (fun v8 => j21_ (po_m4 + 1) ((10 * v5) + v8))))))))
def f_X1_scanNumber_L21 (fu : Nat) (tx : Int → Int) (le : Int) (x1 : Int) (k21_ : Int → Int → Option (Int × Int)) : Nat → Int → Int → Option (Int × Int)
  | 0 => fun _ _ => none
  | n + 1 => f_X1_scanNumber_L21_b fu tx le x1 k21_ (f_X1_scanNumber_L21 fu tx le x1 k21_ n)
def f_X1_scanNumber (fu : Nat) (tx : Int → Int) (le : Int) (po : Int) (x1 : Int) : Option (Int × Int) :=
  jb (f_X1_digit fu tx le po) (fun v1 => jck v1 0 (if 0 ≤ v1 then f_X1_scanNumber_L21 fu tx le x1 (f_X1_scanNumber_X79 fu) fu (po + 1) v1 else some ((-1), po)))
def f_X1_accept_J24 (fu : Nat) (po : Int) (v1 : Int) : Option (Int × Int) :=
  jck v1 0 (if v1 = 0 then jbo v1 (some (v1, po)) else jbo v1 (some (v1, (po + 1))))
def f_X1_accept_J23 (fu : Nat) (po : Int)  : Option (Int × Int) :=
  f_X1_accept_J24 fu po 0
def f_X1_accept (fu : Nat) (tx : Int → Int) (le : Int) (po : Int) (x1 : Int) : Option (Int × Int) :=
  jck po le (if le ≤ po then f_X1_accept_J23 fu po else jb (f_X1_current fu tx le po) (fun v2 => jck v2 x1 (if v2 ≠ x1 then f_X1_accept_J23 fu po else f_X1_accept_J24 fu po 1)))
def f_X1_keep (fu : Nat) (pt : Int → Int) (pf : Int → Int) (pl : Int → Int) (pa : Int → Int) (fo : Int) (x1 : Int) (x2 : Int) (x3 : Int) (x4 : Int) : Option ((Int → Int) × (Int → Int) × (Int → Int) × (Int → Int) × Int) :=
  jck fo 10 (if 10 ≤ fo then some (pt, pf, pl, pa, fo) else jix 10 fo (jix 10 fo (jix 10 fo (jix 10 fo (jbo x4 (some ((uI pt fo x1), (uI pf fo x2), (uI pl fo x3), (uI pa fo x4), (fo + 1))))))))
def f_X1_scanNote (fu : Nat) (tx : Int → Int) (le : Int) (po : Int) (pt : Int → Int) (pf : Int → Int) (pl : Int → Int) (pa : Int → Int) (fo : Int) : Option (Int × Int × (Int → Int) × (Int → Int) × (Int → Int) × (Int → Int) × Int) :=
  jb2 (f_X1_scanNumber fu tx le po 11) (fun v1 po_m2 => jck v1 0 (if v1 < 0 then jbo 0 (some (0, po_m2, pt, pf, pl, pa, fo)) else jb2 (f_X1_accept fu tx le po_m2 58) (fun v3 po_m4 => jck v3 0 (if v3 ≠ 0 then jb2 (f_X1_scanNumber fu tx le po_m4 99) (fun v5 po_m6 => jck v5 0 (if v5 < 0 then jbo 0 (some (0, po_m6, pt, pf, pl, pa, fo)) else jb2 (f_X1_accept fu tx le po_m6 45) (fun v7 po_m8 => jck v7 0 (if v7 ≠ 0 then jb2 (f_X1_scanNumber fu tx le po_m8 99) (fun v9 po_m10 => jck v9 0 (if 0 ≤ v9 then jb2 (f_X1_accept fu tx le po_m10 33) (fun v11 po_m12 => jb5 (f_X1_keep fu pt pf pl pa fo v1 v5 v9 v11) (fun pt_m13 pf_m14 pl_m15 pa_m16 fo_m17 => jbo 1 (some (1, po_m12, pt_m13, pf_m14, pl_m15, pa_m16, fo_m17)))) else jbo 0 (some (0, po_m10, pt, pf, pl, pa, fo)))) else jbo 0 (some (0, po_m8, pt, pf, pl, pa, fo)))))) else jbo 0 (some (0, po_m4, pt, pf, pl, pa, fo))))))
def f_X1_scan_X59 (fu : Nat)  (po_m1 : Int) (pt_m2 : Int → Int) (pf_m3 : Int → Int) (pl_m4 : Int → Int) (pa_m5 : Int → Int) (fo_m6 : Int) : Option (Int × Int × (Int → Int) × (Int → Int) × (Int → Int) × (Int → Int) × Int) :=
  jbo 0 (some (0, po_m1, pt_m2, pf_m3, pl_m4, pa_m5, fo_m6))
def f_X1_scan_L12_b (fu : Nat) (tx : Int → Int) (le : Int) (k12_ : Int → (Int → Int) → (Int → Int) → (Int → Int) → (Int → Int) → Int → Option (Int × Int × (Int → Int) × (Int → Int) × (Int → Int) × (Int → Int) × Int)) (j12_ : Int → (Int → Int) → (Int → Int) → (Int → Int) → (Int → Int) → Int → Int → Option (Int × Int × (Int → Int) × (Int → Int) × (Int → Int) × (Int → Int) × Int)) (po_m7 : Int) (pt_m8 : Int → Int) (pf_m9 : Int → Int) (pl_m10 : Int → Int) (pa_m11 : Int → Int) (fo_m12 : Int) (v13 : Int) : Option (Int × Int × (Int → Int) × (Int → Int) × (Int → Int) × (Int → Int) × Int) :=
  jck v13 10 (if 10 ≤ v13 then k12_ po_m7 pt_m8 pf_m9 pl_m10 pa_m11 fo_m12 else jb7 (f_X1_scanNote fu tx le po_m7 pt_m8 pf_m9 pl_m10 pa_m11 fo_m12) (fun v14 po_m15 pt_m16 pf_m17 pl_m18 pa_m19 fo_m20 => jck v14 0 (if v14 ≠ 0 then jb2 (f_X1_accept fu tx le po_m15 59) (fun v21 po_m22 => jck v21 0 (if v21 ≠ 0 then j12_ po_m22 pt_m16 pf_m17 pl_m18 pa_m19 fo_m20 (v13 + 1) else jck po_m22 le (if po_m22 ≠ le then jbo 0 (some (0, po_m22, pt_m16, pf_m17, pl_m18, pa_m19, fo_m20)) else jbo 1 (some (1, po_m22, pt_m16, pf_m17, pl_m18, pa_m19, fo_m20))))) else jbo 0 (some (0, po_m15, pt_m16, pf_m17, pl_m18, pa_m19, fo_m20)))))
def f_X1_scan_L12 (fu : Nat) (tx : Int → Int) (le : Int) (k12_ : Int → (Int → Int) → (Int → Int) → (Int → Int) → (Int → Int) → Int → Option (Int × Int × (Int → Int) × (Int → Int) × (Int → Int) × (Int → Int) × Int)) : Nat → Int → (Int → Int) → (Int → Int) → (Int → Int) → (Int → Int) → Int → Int → Option (Int × Int × (Int → Int) × (Int → Int) × (Int → Int) × (Int → Int) × Int)
  | 0 => fun _ _ _ _ _ _ _ => none
  | n + 1 => f_X1_scan_L12_b fu tx le k12_ (f_X1_scan_L12 fu tx le k12_ n)
def f_X1_scan (fu : Nat) (tx : Int → Int) (le : Int) (po : Int) (pt : Int → Int) (pf : Int → Int) (pl : Int → Int) (pa : Int → Int) (fo : Int) : Option (Int × Int × (Int → Int) × (Int → Int) × (Int → Int) × (Int → Int) × Int) :=
  f_X1_scan_L12 fu tx le (f_X1_scan_X59 fu) fu 0 pt pf pl pa 0 0
def f_X1_isFound (fu : Nat) (fo : Int) (x1 : Int) : Option (Int) :=
  jck x1 0 (if x1 < 0 then jbo 0 (some 0) else jck x1 fo (if fo ≤ x1 then jbo 0 (some 0) else jck x1 10 (if 10 ≤ x1 then jbo 0 (some 0) else jbo 1 (some 1))))
def f_X1_foundLast (fu : Nat) (pl : Int → Int) (fo : Int) (x1 : Int) : Option (Int) :=
  jb (f_X1_isFound fu fo x1) (fun v1 => jck v1 0 (if v1 = 0 then some 0 else jix 10 x1 (some (pl x1))))
def f_X1_foundFirst (fu : Nat) (pf : Int → Int) (fo : Int) (x1 : Int) : Option (Int) :=
  jb (f_X1_isFound fu fo x1) (fun v1 => jck v1 0 (if v1 = 0 then some 0 else jix 10 x1 (some (pf x1))))
def f_X1_hasTurnedNote_X31 (fu : Nat)   : Option (Int) :=
  jbo 0 (some 0)
def f_X1_hasTurnedNote_L2_b (fu : Nat) (pf : Int → Int) (pl : Int → Int) (fo : Int) (k2_ : Option (Int)) (j2_ : Int → Option (Int)) (v1 : Int) : Option (Int) :=
  jck v1 fo (if fo ≤ v1 then k2_ else jb (f_X1_foundLast fu pl fo v1) (fun v2 => jb (f_X1_foundFirst fu pf fo v1) (fun v3 => jck v2 v3 (if v3 ≤ v2 then j2_ (v1 + 1) else jbo 1 (some 1)))))
def f_X1_hasTurnedNote_L2 (fu : Nat) (pf : Int → Int) (pl : Int → Int) (fo : Int) (k2_ : Option (Int)) : Nat → Int → Option (Int)
  | 0 => fun _ => none
  | n + 1 => f_X1_hasTurnedNote_L2_b fu pf pl fo k2_ (f_X1_hasTurnedNote_L2 fu pf pl fo k2_ n)
def f_X1_hasTurnedNote (fu : Nat) (pf : Int → Int) (pl : Int → Int) (fo : Int) : Option (Int) :=
  f_X1_hasTurnedNote_L2 fu pf pl fo (f_X1_hasTurnedNote_X31 fu) fu 0
def f_X1_found (fu : Nat) (fo : Int) : Option (Int) :=
  some fo
def f_X1_foundTrack (fu : Nat) (pt : Int → Int) (fo : Int) (x1 : Int) : Option (Int) :=
  jb (f_X1_isFound fu fo x1) (fun v1 => jck v1 0 (if v1 = 0 then some 0 else jix 10 x1 (some (pt x1))))
def f_X1_foundAccent (fu : Nat) (pa : Int → Int) (fo : Int) (x1 : Int) : Option (Int) :=
  jb (f_X1_isFound fu fo x1) (fun v1 => jck v1 0 (if v1 = 0 then jbo 0 (some 0) else jix 10 x1 (jck (pa x1) 0 (if (pa x1) = 0 then jbo 0 (some 0) else jbo 1 (some 1)))))
def f_X4_addFoundNotes_X96 (fu : Nat)  (u_tr_m1 : Int → Int) (u_fi_m2 : Int → Int) (u_la_m3 : Int → Int) (u_sh_m4 : Int → Int) (u_ac_m5 : Int → Int) (u_no_m6 : Int) : Option (Int × (Int → Int) × (Int → Int) × (Int → Int) × (Int → Int) × (Int → Int) × Int) :=
  jbo 1 (some (1, u_tr_m1, u_fi_m2, u_la_m3, u_sh_m4, u_ac_m5, u_no_m6))
def f_X4_addFoundNotes_L2_b (fu : Nat) (d_pt : Int → Int) (d_pf : Int → Int) (d_pl : Int → Int) (d_pa : Int → Int) (d_fo : Int) (k2_ : (Int → Int) → (Int → Int) → (Int → Int) → (Int → Int) → (Int → Int) → Int → Option (Int × (Int → Int) × (Int → Int) × (Int → Int) × (Int → Int) × (Int → Int) × Int)) (j2_ : (Int → Int) → (Int → Int) → (Int → Int) → (Int → Int) → (Int → Int) → Int → Int → Option (Int × (Int → Int) × (Int → Int) × (Int → Int) × (Int → Int) × (Int → Int) × Int)) (u_tr_m7 : Int → Int) (u_fi_m8 : Int → Int) (u_la_m9 : Int → Int) (u_sh_m10 : Int → Int) (u_ac_m11 : Int → Int) (u_no_m12 : Int) (v13 : Int) : Option (Int × (Int → Int) × (Int → Int) × (Int → Int) × (Int → Int) × (Int → Int) × Int) :=
  jb (f_X1_found fu d_fo) (fun v14 => jck v13 v14 (if v14 ≤ v13 then k2_ u_tr_m7 u_fi_m8 u_la_m9 u_sh_m10 u_ac_m11 u_no_m12 else jb (f_X1_foundTrack fu d_pt d_fo v13) (fun v15 => jb (f_X1_foundFirst fu d_pf d_fo v13) (fun v16 => jb (f_X1_foundLast fu d_pl d_fo v13) (fun v17 => jb (f_X3_isTaken fu u_tr_m7 u_fi_m8 u_la_m9 u_no_m12 v15 v16 v17) (fun v18 => jck v18 0 (if v18 = 0 then jb (f_X1_foundTrack fu d_pt d_fo v13) (fun v19 => jb (f_X1_foundFirst fu d_pf d_fo v13) (fun v20 => jb (f_X1_foundLast fu d_pl d_fo v13) (fun v21 => jb (f_X1_foundAccent fu d_pa d_fo v13) (fun v22 => jb7 (f_X3_add fu u_tr_m7 u_fi_m8 u_la_m9 u_sh_m10 u_ac_m11 u_no_m12 v19 v20 v21 0 v22) (fun v23 tr_m24 fi_m25 la_m26 sh_m27 ac_m28 no_m29 => j2_ tr_m24 fi_m25 la_m26 sh_m27 ac_m28 no_m29 (v13 + 1)))))) else jbo 0 (some (0, u_tr_m7, u_fi_m8, u_la_m9, u_sh_m10, u_ac_m11, u_no_m12)))))))))
def f_X4_addFoundNotes_L2 (fu : Nat) (d_pt : Int → Int) (d_pf : Int → Int) (d_pl : Int → Int) (d_pa : Int → Int) (d_fo : Int) (k2_ : (Int → Int) → (Int → Int) → (Int → Int) → (Int → Int) → (Int → Int) → Int → Option (Int × (Int → Int) × (Int → Int) × (Int → Int) × (Int → Int) × (Int → Int) × Int)) : Nat → (Int → Int) → (Int → Int) → (Int → Int) → (Int → Int) → (Int → Int) → Int → Int → Option (Int × (Int → Int) × (Int → Int) × (Int → Int) × (Int → Int) × (Int → Int) × Int)
  | 0 => fun _ _ _ _ _ _ _ => none
  | n + 1 => f_X4_addFoundNotes_L2_b fu d_pt d_pf d_pl d_pa d_fo k2_ (f_X4_addFoundNotes_L2 fu d_pt d_pf d_pl d_pa d_fo k2_ n)
def f_X4_addFoundNotes (fu : Nat) (u_tr : Int → Int) (u_fi : Int → Int) (u_la : Int → Int) (u_sh : Int → Int) (u_ac : Int → Int) (u_no : Int) (d_pt : Int → Int) (d_pf : Int → Int) (d_pl : Int → Int) (d_pa : Int → Int) (d_fo : Int) : Option (Int × (Int → Int) × (Int → Int) × (Int → Int) × (Int → Int) × (Int → Int) × Int) :=
  f_X4_addFoundNotes_L2 fu d_pt d_pf d_pl d_pa d_fo (f_X4_addFoundNotes_X96 fu) fu u_tr u_fi u_la u_sh u_ac u_no 0
def f_X1_clear (fu : Nat) (le : Int) : Option (Int) :=
  some 0
def f_X4_read (fu : Nat) (r_se : Int → Int) (r_tr : Int → Int) (r_fi : Int → Int) (r_la : Int → Int) (r_sh : Int → Int) (r_ac : Int → Int) (r_no : Int) (u_se : Int → Int) (u_tr : Int → Int) (u_fi : Int → Int) (u_la : Int → Int) (u_sh : Int → Int) (u_ac : Int → Int) (u_no : Int) (d_tx : Int → Int) (d_le : Int) (d_po : Int) (d_pt : Int → Int) (d_pf : Int → Int) (d_pl : Int → Int) (d_pa : Int → Int) (d_fo : Int) (g_ol : Int) (g_si : Int) (k_se : Int → Int → Int) (k_tr : Int → Int → Int) (k_fi : Int → Int → Int) (k_la : Int → Int → Int) (k_sh : Int → Int → Int) (k_ac : Int → Int → Int) (k_no : Int → Int) : Option (Int × (Int → Int) × (Int → Int) × (Int → Int) × (Int → Int) × (Int → Int) × (Int → Int) × Int × (Int → Int) × (Int → Int) × (Int → Int) × (Int → Int) × (Int → Int) × (Int → Int) × Int × Int × Int × (Int → Int) × (Int → Int) × (Int → Int) × (Int → Int) × Int × Int × Int × (Int → Int → Int) × (Int → Int → Int) × (Int → Int → Int) × (Int → Int → Int) × (Int → Int → Int) × (Int → Int → Int) × (Int → Int)) :=
  jb7 (f_X1_scan fu d_tx d_le d_po d_pt d_pf d_pl d_pa d_fo) (fun v1 po_m2 pt_m3 pf_m4 pl_m5 pa_m6 fo_m7 => jck v1 0 (if v1 ≠ 0 then jb (f_X1_hasTurnedNote fu pf_m4 pl_m5 fo_m7) (fun v8 => jck v8 0 (if v8 = 0 then jb (f_X3_size fu r_no) (fun v9 => jb (f_X1_found fu fo_m7) (fun v10 => jck (v9 + v10) 40 (if (v9 + v10) ≤ 40 then jb7 (f_X3_become fu u_se u_tr u_fi u_la u_sh u_ac u_no r_se r_tr r_fi r_la r_sh r_ac r_no) (fun se_m11 tr_m12 fi_m13 la_m14 sh_m15 ac_m16 no_m17 => jb7 (f_X4_addFoundNotes fu tr_m12 fi_m13 la_m14 sh_m15 ac_m16 no_m17 pt_m3 pf_m4 pl_m5 pa_m6 fo_m7) (fun v18 u_tr_m19 u_fi_m20 u_la_m21 u_sh_m22 u_ac_m23 u_no_m24 => jck v18 0 (if v18 ≠ 0 then jb9 (f_X0_record fu g_ol g_si k_se k_tr k_fi k_la k_sh k_ac k_no r_se r_tr r_fi r_la r_sh r_ac r_no) (fun ol_m25 si_m26 k_se_m27 k_tr_m28 k_fi_m29 k_la_m30 k_sh_m31 k_ac_m32 k_no_m33 => jb7 (f_X3_become fu r_se r_tr r_fi r_la r_sh r_ac r_no se_m11 u_tr_m19 u_fi_m20 u_la_m21 u_sh_m22 u_ac_m23 u_no_m24) (fun se_m34 tr_m35 fi_m36 la_m37 sh_m38 ac_m39 no_m40 => jb (f_X1_clear fu d_le) (fun le_m41 => jb (f_X3_size fu no_m40) (fun v42 => some (v42, se_m34, tr_m35, fi_m36, la_m37, sh_m38, ac_m39, no_m40, se_m11, u_tr_m19, u_fi_m20, u_la_m21, u_sh_m22, u_ac_m23, u_no_m24, le_m41, po_m2, pt_m3, pf_m4, pl_m5, pa_m6, fo_m7, ol_m25, si_m26, k_se_m27, k_tr_m28, k_fi_m29, k_la_m30, k_sh_m31, k_ac_m32, k_no_m33))))) else some ((-5), r_se, r_tr, r_fi, r_la, r_sh, r_ac, r_no, se_m11, u_tr_m19, u_fi_m20, u_la_m21, u_sh_m22, u_ac_m23, u_no_m24, d_le, po_m2, pt_m3, pf_m4, pl_m5, pa_m6, fo_m7, g_ol, g_si, k_se, k_tr, k_fi, k_la, k_sh, k_ac, k_no)))) else some ((-4), r_se, r_tr, r_fi, r_la, r_sh, r_ac, r_no, u_se, u_tr, u_fi, u_la, u_sh, u_ac, u_no, d_le, po_m2, pt_m3, pf_m4, pl_m5, pa_m6, fo_m7, g_ol, g_si, k_se, k_tr, k_fi, k_la, k_sh, k_ac, k_no)))) else some ((-2), r_se, r_tr, r_fi, r_la, r_sh, r_ac, r_no, u_se, u_tr, u_fi, u_la, u_sh, u_ac, u_no, d_le, po_m2, pt_m3, pf_m4, pl_m5, pa_m6, fo_m7, g_ol, g_si, k_se, k_tr, k_fi, k_la, k_sh, k_ac, k_no))) else some ((-3), r_se, r_tr, r_fi, r_la, r_sh, r_ac, r_no, u_se, u_tr, u_fi, u_la, u_sh, u_ac, u_no, d_le, po_m2, pt_m3, pf_m4, pl_m5, pa_m6, fo_m7, g_ol, g_si, k_se, k_tr, k_fi, k_la, k_sh, k_ac, k_no)))
def f_X3_isHole (fu : Nat) (se : Int → Int) (fi : Int → Int) (la : Int → Int) (sh : Int → Int) (no : Int) (x1 : Int) (x2 : Int) : Option (Int) :=
  jb (f_X3_firstOf fu fi no x1) (fun v1 => jck x2 v1 (if x2 = v1 then jbo 1 (some 1) else jb (f_X3_lastOf fu la no x1) (fun v2 => jck x2 v2 (if x2 ≠ v2 then jix 4 0 (jix 4 1 (jb (f_X3_firstOf fu fi no x1) (fun v3 => jb (f_X3_shiftOf fu sh no x1) (fun v4 => jck ((se 0) + (se 1)) 0 (if ((se 0) + (se 1)) ≤ 0 then jbo 0 (some 0) else jre ((x2 - v3) + v4) ((se 0) + (se 1)) (jix 4 0 (jck (((x2 - v3) + v4) % ((se 0) + (se 1))) (se 0) (if (se 0) ≤ (((x2 - v3) + v4) % ((se 0) + (se 1))) then jbo 0 (some 0) else jbo 1 (some 1))))))))) else jbo 1 (some 1)))))
def f_X3_bridges_X35 (fu : Nat)  (v2 : Int) : Option (Int) :=
  some v2
def f_X3_bridges_L8_b (fu : Nat) (se : Int → Int) (fi : Int → Int) (la : Int → Int) (sh : Int → Int) (no : Int) (x1 : Int) (k8_ : Int → Option (Int)) (j8_ : Int → Int → Option (Int)) (v3 : Int) (v4 : Int) : Option (Int) :=
  jb (f_X3_lastOf fu la no x1) (fun v5 => jck v4 v5 (if v5 < v4 then k8_ v3 else jb (f_X3_isHole fu se fi la sh no x1 v4) (fun v6 => jck v6 0 (if v6 ≠ 0 then j8_ v3 (v4 + 1) else j8_ (v3 + 1) (v4 + 1)))))
def f_X3_bridges_L8 (fu : Nat) (se : Int → Int) (fi : Int → Int) (la : Int → Int) (sh : Int → Int) (no : Int) (x1 : Int) (k8_ : Int → Option (Int)) : Nat → Int → Int → Option (Int)
  | 0 => fun _ _ => none
  | n + 1 => f_X3_bridges_L8_b fu se fi la sh no x1 k8_ (f_X3_bridges_L8 fu se fi la sh no x1 k8_ n)
def f_X3_bridges (fu : Nat) (se : Int → Int) (fi : Int → Int) (la : Int → Int) (sh : Int → Int) (no : Int) (x1 : Int) : Option (Int) :=
  jb (f_X3_firstOf fu fi no x1) (fun v1 => f_X3_bridges_L8 fu se fi la sh no x1 (f_X3_bridges_X35 fu) fu 0 v1)
def f_X3_longestBridge_X51 (fu : Nat)  (v2 : Int) : Option (Int) :=
  some v2
def f_X3_longestBridge_J38 (fu : Nat) (v3 : Int) (v5 : Int) (j11_ : Int → Int → Int → Option (Int)) (v8 : Int) : Option (Int) :=
  jck v3 v8 (j11_ (jmax v3 v8) v8 (v5 + 1))
def f_X3_longestBridge_L11_b (fu : Nat) (se : Int → Int) (fi : Int → Int) (la : Int → Int) (sh : Int → Int) (no : Int) (x1 : Int) (k11_ : Int → Option (Int)) (j11_ : Int → Int → Int → Option (Int)) (v3 : Int) (v4 : Int) (v5 : Int) : Option (Int) :=
  jb (f_X3_lastOf fu la no x1) (fun v6 => jck v5 v6 (if v6 < v5 then k11_ v3 else jb (f_X3_isHole fu se fi la sh no x1 v5) (fun v7 => jck v7 0 (if v7 = 0 then f_X3_longestBridge_J38 fu v3 v5 j11_ (v4 + 1) else f_X3_longestBridge_J38 fu v3 v5 j11_ 0))))
def f_X3_longestBridge_L11 (fu : Nat) (se : Int → Int) (fi : Int → Int) (la : Int → Int) (sh : Int → Int) (no : Int) (x1 : Int) (k11_ : Int → Option (Int)) : Nat → Int → Int → Int → Option (Int)
  | 0 => fun _ _ _ => none
  | n + 1 => f_X3_longestBridge_L11_b fu se fi la sh no x1 k11_ (f_X3_longestBridge_L11 fu se fi la sh no x1 k11_ n)
def f_X3_longestBridge (fu : Nat) (se : Int → Int) (fi : Int → Int) (la : Int → Int) (sh : Int → Int) (no : Int) (x1 : Int) : Option (Int) :=
  jb (f_X3_firstOf fu fi no x1) (fun v1 => f_X3_longestBridge_L11 fu se fi la sh no x1 (f_X3_longestBridge_X51 fu) fu 0 0 v1)
def f_J7_fill_53178_X20 (fu : Nat)  (q0f_m1 : Int → Int) : Option ((Int → Int)) :=
  some q0f_m1
def f_J7_fill_53178_L5_b (fu : Nat) (n0 : Nat) (x1 : Int) (k5_ : (Int → Int) → Option ((Int → Int))) (j5_ : (Int → Int) → Int → Int → Option ((Int → Int))) (q0f_m2 : Int → Int) (v3 : Int) (v4 : Int) : Option ((Int → Int)) :=
  jck v3 v4 (if v4 ≤ v3 then k5_ q0f_m2 else jix (n0 : Int) v3 (j5_ (uI q0f_m2 v3 x1) (v3 + 1) v4))
def f_J7_fill_53178_L5 (fu : Nat) (n0 : Nat) (x1 : Int) (k5_ : (Int → Int) → Option ((Int → Int))) : Nat → (Int → Int) → Int → Int → Option ((Int → Int))
  | 0 => fun _ _ _ => none
  | n + 1 => f_J7_fill_53178_L5_b fu n0 x1 k5_ (f_J7_fill_53178_L5 fu n0 x1 k5_ n)
def f_J7_fill_53178 (fu : Nat) (n0 : Nat) (q0f : Int → Int) (x1 : Int) : Option ((Int → Int)) :=
  f_J7_fill_53178_L5 fu n0 x1 (f_J7_fill_53178_X20 fu) fu q0f 0 (n0 : Int)
def f_X2_holesAt (fu : Nat) (hf : Int → Int) (x1 : Int) : Option (Int) :=
  jb (f_X4_isStep fu x1) (fun v1 => jck v1 0 (if v1 = 0 then some 0 else jix 100 x1 (some (hf x1))))
def f_X2_listen_X53 (fu : Nat)  (eh_m1 : Int → Int) : Option ((Int → Int)) :=
  some eh_m1
def f_X2_listen_X40 (fu : Nat) (eh_m2 : Int → Int) (v3 : Int) (j2_ : (Int → Int) → Int → Option ((Int → Int))) (v4 : Int) : Option ((Int → Int)) :=
  jix 100 v3 (j2_ (uI eh_m2 v3 v4) (v3 + 1))
def f_X2_listen_L19_b (fu : Nat) (hf : Int → Int) (v3 : Int) (k19_ : Int → Option ((Int → Int))) (j19_ : Int → Int → Option ((Int → Int))) (v5 : Int) (v6 : Int) : Option ((Int → Int)) :=
  jck v6 v3 (if v3 < v6 then k19_ v5 else jb (f_X2_holesAt fu hf v6) (fun v7 => j19_ (jor v5 v7) (v6 + 1)))
def f_X2_listen_L19 (fu : Nat) (hf : Int → Int) (v3 : Int) (k19_ : Int → Option ((Int → Int))) : Nat → Int → Int → Option ((Int → Int))
  | 0 => fun _ _ => none
  | n + 1 => f_X2_listen_L19_b fu hf v3 k19_ (f_X2_listen_L19 fu hf v3 k19_ n)
def f_X2_listen_L2_b (fu : Nat) (hf : Int → Int) (x1 : Int) (k2_ : (Int → Int) → Option ((Int → Int))) (j2_ : (Int → Int) → Int → Option ((Int → Int))) (eh_m2 : Int → Int) (v3 : Int) : Option ((Int → Int)) :=
  jck v3 100 (if 100 ≤ v3 then k2_ eh_m2 else jck 0 (v3 - x1) (f_X2_listen_L19 fu hf v3 (f_X2_listen_X40 fu eh_m2 v3 j2_) fu 0 (jmax 0 (v3 - x1))))
def f_X2_listen_L2 (fu : Nat) (hf : Int → Int) (x1 : Int) (k2_ : (Int → Int) → Option ((Int → Int))) : Nat → (Int → Int) → Int → Option ((Int → Int))
  | 0 => fun _ _ => none
  | n + 1 => f_X2_listen_L2_b fu hf x1 k2_ (f_X2_listen_L2 fu hf x1 k2_ n)
def f_X2_listen (fu : Nat) (eh : Int → Int) (hf : Int → Int) (x1 : Int) : Option ((Int → Int)) :=
  f_X2_listen_L2 fu hf x1 (f_X2_listen_X53 fu) fu eh 0
def f_X2_punch (fu : Nat) (hf : Int → Int) (x1 : Int) (x2 : Int) : Option ((Int → Int)) :=
  jb (f_X4_isTrack fu x1) (fun v1 => jck v1 0 (if v1 = 0 then some hf else jb (f_X4_isStep fu x2) (fun v2 => jck v2 0 (if v2 = 0 then some hf else jix 100 x2 (jix 100 x2 (some (uI hf x2 (jor (hf x2) (jshl 1 x1)))))))))
def f_X2_perforate_X112 (fu : Nat) (o_se : Int → Int) (eh_m3 : Int → Int) (we_m4 : Int) (hf_m5 : Int → Int) : Option ((Int → Int) × Int × (Int → Int)) :=
  jb (f_X3_settingOf fu o_se 2) (fun v6 => jb (f_X2_listen fu eh_m3 hf_m5 v6) (fun eh_m7 => some (eh_m7, we_m4, hf_m5)))
def f_X2_perforate_J101 (fu : Nat) (v11 : Int) (v14 : Int) (eh_m15 : Int → Int) (we_m16 : Int) (hf_m17 : Int → Int) (j19_ : (Int → Int) → Int → (Int → Int) → Int → Option ((Int → Int) × Int × (Int → Int))) (v19 : Int) : Option ((Int → Int) × Int × (Int → Int)) :=
  jb (f_X2_punch fu hf_m17 v19 v14) (fun hf_m20 => j19_ eh_m15 we_m16 hf_m20 (v11 + 1))
def f_X2_perforate_X77 (fu : Nat) (o_ac : Int → Int) (o_no : Int) (v11 : Int) (v13 : Int) (v14 : Int) (j19_ : (Int → Int) → Int → (Int → Int) → Int → Option ((Int → Int) × Int × (Int → Int))) (eh_m15 : Int → Int) (we_m16 : Int) (hf_m17 : Int → Int) : Option ((Int → Int) × Int × (Int → Int)) :=
  jb (f_X3_hasAccent fu o_ac o_no v11) (fun v18 => jck v18 0 (if v18 = 0 then j19_ eh_m15 we_m16 hf_m17 (v11 + 1) else jck v13 11 (if v13 ≠ 11 then f_X2_perforate_J101 fu v11 v14 eh_m15 we_m16 hf_m17 j19_ (v13 + 1) else f_X2_perforate_J101 fu v11 v14 eh_m15 we_m16 hf_m17 j19_ (v13 - 1))))
def f_X2_perforate_L44_b (fu : Nat) (o_se : Int → Int) (o_fi : Int → Int) (o_la : Int → Int) (o_sh : Int → Int) (o_no : Int) (v11 : Int) (v13 : Int) (k44_ : (Int → Int) → Int → (Int → Int) → Option ((Int → Int) × Int × (Int → Int))) (j44_ : (Int → Int) → Int → (Int → Int) → Int → Option ((Int → Int) × Int × (Int → Int))) (eh_m21 : Int → Int) (we_m22 : Int) (hf_m23 : Int → Int) (v24 : Int) : Option ((Int → Int) × Int × (Int → Int)) :=
  jb (f_X3_lastOf fu o_la o_no v11) (fun v25 => jck v24 v25 (if v25 < v24 then k44_ eh_m21 we_m22 hf_m23 else jb (f_X3_isHole fu o_se o_fi o_la o_sh o_no v11 v24) (fun v26 => jck v26 0 (if v26 = 0 then j44_ eh_m21 we_m22 hf_m23 (v24 + 1) else jb (f_X2_punch fu hf_m23 v13 v24) (fun hf_m27 => j44_ eh_m21 we_m22 hf_m27 (v24 + 1))))))
def f_X2_perforate_L44 (fu : Nat) (o_se : Int → Int) (o_fi : Int → Int) (o_la : Int → Int) (o_sh : Int → Int) (o_no : Int) (v11 : Int) (v13 : Int) (k44_ : (Int → Int) → Int → (Int → Int) → Option ((Int → Int) × Int × (Int → Int))) : Nat → (Int → Int) → Int → (Int → Int) → Int → Option ((Int → Int) × Int × (Int → Int))
  | 0 => fun _ _ _ _ => none
  | n + 1 => f_X2_perforate_L44_b fu o_se o_fi o_la o_sh o_no v11 v13 k44_ (f_X2_perforate_L44 fu o_se o_fi o_la o_sh o_no v11 v13 k44_ n)
def f_X2_perforate_L19_b (fu : Nat) (o_se : Int → Int) (o_tr : Int → Int) (o_fi : Int → Int) (o_la : Int → Int) (o_sh : Int → Int) (o_ac : Int → Int) (o_no : Int) (k19_ : (Int → Int) → Int → (Int → Int) → Option ((Int → Int) × Int × (Int → Int))) (j19_ : (Int → Int) → Int → (Int → Int) → Int → Option ((Int → Int) × Int × (Int → Int))) (eh_m8 : Int → Int) (we_m9 : Int) (hf_m10 : Int → Int) (v11 : Int) : Option ((Int → Int) × Int × (Int → Int)) :=
  jb (f_X3_size fu o_no) (fun v12 => jck v11 v12 (if v12 ≤ v11 then k19_ eh_m8 we_m9 hf_m10 else jb (f_X3_trackOf fu o_tr o_no v11) (fun v13 => jb (f_X3_firstOf fu o_fi o_no v11) (fun v14 => f_X2_perforate_L44 fu o_se o_fi o_la o_sh o_no v11 v13 (f_X2_perforate_X77 fu o_ac o_no v11 v13 v14 j19_) fu eh_m8 we_m9 hf_m10 v14))))
def f_X2_perforate_L19 (fu : Nat) (o_se : Int → Int) (o_tr : Int → Int) (o_fi : Int → Int) (o_la : Int → Int) (o_sh : Int → Int) (o_ac : Int → Int) (o_no : Int) (k19_ : (Int → Int) → Int → (Int → Int) → Option ((Int → Int) × Int × (Int → Int))) : Nat → (Int → Int) → Int → (Int → Int) → Int → Option ((Int → Int) × Int × (Int → Int))
  | 0 => fun _ _ _ _ => none
  | n + 1 => f_X2_perforate_L19_b fu o_se o_tr o_fi o_la o_sh o_ac o_no k19_ (f_X2_perforate_L19 fu o_se o_tr o_fi o_la o_sh o_ac o_no k19_ n)
def f_X2_perforate (fu : Nat) (eh : Int → Int) (we : Int) (hf : Int → Int) (o_se : Int → Int) (o_tr : Int → Int) (o_fi : Int → Int) (o_la : Int → Int) (o_sh : Int → Int) (o_ac : Int → Int) (o_no : Int) : Option ((Int → Int) × Int × (Int → Int)) :=
  jb (f_X3_settingOf fu o_se 3) (fun v1 => jb (f_J7_fill_53178 fu 100 hf 0) (fun q0f_m2 => f_X2_perforate_L19 fu o_se o_tr o_fi o_la o_sh o_ac o_no (f_X2_perforate_X112 fu o_se) fu eh v1 q0f_m2 0))
def f_X2_heardAt (fu : Nat) (eh : Int → Int) (x1 : Int) : Option (Int) :=
  jb (f_X4_isStep fu x1) (fun v1 => jck v1 0 (if v1 = 0 then some 0 else jix 100 x1 (some (eh x1))))
def f_X2_isHeard (fu : Nat) (eh : Int → Int) (x1 : Int) (x2 : Int) : Option (Int) :=
  jb (f_X4_isTrack fu x1) (fun v1 => jck v1 0 (if v1 = 0 then jbo 0 (some 0) else jb (f_X2_heardAt fu eh x2) (fun v2 => jck (jand (jshr v2 x1) 1) 1 (if (jand (jshr v2 x1) 1) ≠ 1 then jbo 0 (some 0) else jbo 1 (some 1)))))
def f_X4_isHeardWhole_X48 (fu : Nat)   : Option (Int) :=
  jbo 1 (some 1)
def f_X4_isHeardWhole_L9_b (fu : Nat) (r_tr : Int → Int) (r_la : Int → Int) (r_no : Int) (p_eh : Int → Int) (x1 : Int) (k9_ : Option (Int)) (j9_ : Int → Option (Int)) (v2 : Int) : Option (Int) :=
  jb (f_X3_lastOf fu r_la r_no x1) (fun v3 => jck v2 v3 (if v3 < v2 then k9_ else jb (f_X3_trackOf fu r_tr r_no x1) (fun v4 => jb (f_X2_isHeard fu p_eh v4 v2) (fun v5 => jck v5 0 (if v5 ≠ 0 then j9_ (v2 + 1) else jbo 0 (some 0))))))
def f_X4_isHeardWhole_L9 (fu : Nat) (r_tr : Int → Int) (r_la : Int → Int) (r_no : Int) (p_eh : Int → Int) (x1 : Int) (k9_ : Option (Int)) : Nat → Int → Option (Int)
  | 0 => fun _ => none
  | n + 1 => f_X4_isHeardWhole_L9_b fu r_tr r_la r_no p_eh x1 k9_ (f_X4_isHeardWhole_L9 fu r_tr r_la r_no p_eh x1 k9_ n)
def f_X4_isHeardWhole (fu : Nat) (r_tr : Int → Int) (r_fi : Int → Int) (r_la : Int → Int) (r_no : Int) (p_eh : Int → Int) (x1 : Int) : Option (Int) :=
  jb (f_X3_firstOf fu r_fi r_no x1) (fun v1 => f_X4_isHeardWhole_L9 fu r_tr r_la r_no p_eh x1 (f_X4_isHeardWhole_X48 fu) fu v1)
def f_X4_of (fu : Nat) (r_se : Int → Int) (r_tr : Int → Int) (r_fi : Int → Int) (r_la : Int → Int) (r_sh : Int → Int) (r_ac : Int → Int) (r_no : Int) (p_eh : Int → Int) (p_we : Int) (p_hf : Int → Int) (x1 : Int) (x2 : Int) : Option (Int × (Int → Int) × Int × (Int → Int)) :=
  jb (f_X3_has fu r_no x1) (fun v1 => jck v1 0 (if v1 ≠ 0 then jck x2 0 (if x2 = 0 then jb (f_X3_trackOf fu r_tr r_no x1) (fun v2 => some (v2, p_eh, p_we, p_hf)) else if x2 = 1 then jb (f_X3_firstOf fu r_fi r_no x1) (fun v3 => some (v3, p_eh, p_we, p_hf)) else if x2 = 2 then jb (f_X3_lastOf fu r_la r_no x1) (fun v4 => some (v4, p_eh, p_we, p_hf)) else if x2 = 3 then jb (f_X3_shiftOf fu r_sh r_no x1) (fun v5 => some (v5, p_eh, p_we, p_hf)) else if x2 = 4 then jb (f_X3_hasAccent fu r_ac r_no x1) (fun v6 => jb (f_X4_asNumber fu v6) (fun v7 => some (v7, p_eh, p_we, p_hf))) else if x2 = 5 then jb (f_X3_bridges fu r_se r_fi r_la r_sh r_no x1) (fun v8 => some (v8, p_eh, p_we, p_hf)) else if x2 = 6 then jb (f_X3_longestBridge fu r_se r_fi r_la r_sh r_no x1) (fun v9 => some (v9, p_eh, p_we, p_hf)) else if x2 = 7 then jb3 (f_X2_perforate fu p_eh p_we p_hf r_se r_tr r_fi r_la r_sh r_ac r_no) (fun eh_m10 we_m11 hf_m12 => jb (f_X4_isHeardWhole fu r_tr r_fi r_la r_no eh_m10 x1) (fun v13 => jb (f_X4_asNumber fu v13) (fun v14 => some (v14, eh_m10, we_m11, hf_m12)))) else some ((-2), p_eh, p_we, p_hf)) else some ((-1), p_eh, p_we, p_hf)))
def f_X3_tracksAt_X46 (fu : Nat)  (v1 : Int) : Option (Int) :=
  some v1
def f_X3_tracksAt_L4_b (fu : Nat) (tr : Int → Int) (fi : Int → Int) (la : Int → Int) (no : Int) (x1 : Int) (k4_ : Int → Option (Int)) (j4_ : Int → Int → Option (Int)) (v2 : Int) (v3 : Int) : Option (Int) :=
  jck v3 no (if no ≤ v3 then k4_ v2 else jb (f_X3_firstOf fu fi no v3) (fun v4 => jck v4 x1 (if x1 < v4 then j4_ v2 (v3 + 1) else jb (f_X3_lastOf fu la no v3) (fun v5 => jck v5 x1 (if v5 < x1 then j4_ v2 (v3 + 1) else jb (f_X3_trackOf fu tr no v3) (fun v6 => j4_ (jor v2 (jshl 1 v6)) (v3 + 1)))))))
def f_X3_tracksAt_L4 (fu : Nat) (tr : Int → Int) (fi : Int → Int) (la : Int → Int) (no : Int) (x1 : Int) (k4_ : Int → Option (Int)) : Nat → Int → Int → Option (Int)
  | 0 => fun _ _ => none
  | n + 1 => f_X3_tracksAt_L4_b fu tr fi la no x1 k4_ (f_X3_tracksAt_L4 fu tr fi la no x1 k4_ n)
def f_X3_tracksAt (fu : Nat) (tr : Int → Int) (fi : Int → Int) (la : Int → Int) (no : Int) (x1 : Int) : Option (Int) :=
  f_X3_tracksAt_L4 fu tr fi la no x1 (f_X3_tracksAt_X46 fu) fu 0 0
def f_X2_sideBySide_X54 (fu : Nat)  (v2 : Int) : Option (Int) :=
  some v2
def f_X2_sideBySide_J39 (fu : Nat) (v3 : Int) (v5 : Int) (j14_ : Int → Int → Int → Option (Int)) (v6 : Int) : Option (Int) :=
  jck v3 v6 (j14_ (jmax v3 v6) v6 (v5 + 1))
def f_X2_sideBySide_L14_b (fu : Nat) (v1 : Int) (k14_ : Int → Option (Int)) (j14_ : Int → Int → Int → Option (Int)) (v3 : Int) (v4 : Int) (v5 : Int) : Option (Int) :=
  jck v5 12 (if 12 ≤ v5 then k14_ v3 else jck (jand (jshr v1 v5) 1) 1 (if (jand (jshr v1 v5) 1) ≠ 1 then f_X2_sideBySide_J39 fu v3 v5 j14_ 0 else f_X2_sideBySide_J39 fu v3 v5 j14_ (v4 + 1)))
def f_X2_sideBySide_L14 (fu : Nat) (v1 : Int) (k14_ : Int → Option (Int)) : Nat → Int → Int → Int → Option (Int)
  | 0 => fun _ _ _ => none
  | n + 1 => f_X2_sideBySide_L14_b fu v1 k14_ (f_X2_sideBySide_L14 fu v1 k14_ n)
def f_X2_sideBySide (fu : Nat) (hf : Int → Int) (x1 : Int) : Option (Int) :=
  jb (f_X2_holesAt fu hf x1) (fun v1 => f_X2_sideBySide_L14 fu v1 (f_X2_sideBySide_X54 fu) fu 0 0 0)
def f_X2_isWeak (fu : Nat) (we : Int) (hf : Int → Int) (x1 : Int) : Option (Int) :=
  jb (f_X2_sideBySide fu hf x1) (fun v1 => jck v1 we (if v1 < we then jbo 0 (some 0) else jbo 1 (some 1)))
def f_X4_at (fu : Nat) (r_se : Int → Int) (r_tr : Int → Int) (r_fi : Int → Int) (r_la : Int → Int) (r_sh : Int → Int) (r_ac : Int → Int) (r_no : Int) (p_eh : Int → Int) (p_we : Int) (p_hf : Int → Int) (x1 : Int) (x2 : Int) : Option (Int × (Int → Int) × Int × (Int → Int)) :=
  jb (f_X4_isStep fu x1) (fun v1 => jck v1 0 (if v1 ≠ 0 then jb3 (f_X2_perforate fu p_eh p_we p_hf r_se r_tr r_fi r_la r_sh r_ac r_no) (fun eh_m2 we_m3 hf_m4 => jck x2 0 (if x2 = 0 then jb (f_X2_holesAt fu hf_m4 x1) (fun v5 => some (v5, eh_m2, we_m3, hf_m4)) else if x2 = 1 then jb (f_X2_heardAt fu eh_m2 x1) (fun v6 => some (v6, eh_m2, we_m3, hf_m4)) else if x2 = 2 then jb (f_X3_tracksAt fu r_tr r_fi r_la r_no x1) (fun v7 => some (v7, eh_m2, we_m3, hf_m4)) else if x2 = 3 then jb (f_X2_sideBySide fu hf_m4 x1) (fun v8 => some (v8, eh_m2, we_m3, hf_m4)) else if x2 = 4 then jb (f_X2_isWeak fu we_m3 hf_m4 x1) (fun v9 => jb (f_X4_asNumber fu v9) (fun v10 => some (v10, eh_m2, we_m3, hf_m4))) else some ((-2), eh_m2, we_m3, hf_m4))) else some ((-2), p_eh, p_we, p_hf)))
def f_X2_startsSound (fu : Nat) (eh : Int → Int) (x1 : Int) (x2 : Int) : Option (Int) :=
  jb (f_X2_isHeard fu eh x1 x2) (fun v1 => jck v1 0 (if v1 = 0 then jbo 0 (some 0) else jb (f_X2_isHeard fu eh x1 (x2 - 1)) (fun v2 => jck v2 0 (if v2 ≠ 0 then jbo 0 (some 0) else jbo 1 (some 1)))))
def f_X2_soundStart_X39 (fu : Nat)   : Option (Int) :=
  some (-1)
def f_X2_soundStart_L5_b (fu : Nat) (eh : Int → Int) (x1 : Int) (x2 : Int) (k5_ : Option (Int)) (j5_ : Int → Int → Option (Int)) (v1 : Int) (v2 : Int) : Option (Int) :=
  jck v2 100 (if 100 ≤ v2 then k5_ else jb (f_X2_startsSound fu eh x1 v2) (fun v3 => jck v3 0 (if v3 = 0 then j5_ v1 (v2 + 1) else jck v1 x2 (if v1 ≠ x2 then j5_ (v1 + 1) (v2 + 1) else some v2))))
def f_X2_soundStart_L5 (fu : Nat) (eh : Int → Int) (x1 : Int) (x2 : Int) (k5_ : Option (Int)) : Nat → Int → Int → Option (Int)
  | 0 => fun _ _ => none
  | n + 1 => f_X2_soundStart_L5_b fu eh x1 x2 k5_ (f_X2_soundStart_L5 fu eh x1 x2 k5_ n)
def f_X2_soundStart (fu : Nat) (eh : Int → Int) (x1 : Int) (x2 : Int) : Option (Int) :=
  f_X2_soundStart_L5 fu eh x1 x2 (f_X2_soundStart_X39 fu) fu 0 0
def f_X2_soundEnd_X31 (fu : Nat)  (v1 : Int) : Option (Int) :=
  some v1
def f_X2_soundEnd_L5_b (fu : Nat) (eh : Int → Int) (x1 : Int) (k5_ : Int → Option (Int)) (j5_ : Int → Int → Option (Int)) (v2 : Int) (v3 : Int) : Option (Int) :=
  jck v3 100 (if 100 ≤ v3 then k5_ v2 else jb (f_X2_isHeard fu eh x1 v3) (fun v4 => jck v4 0 (if v4 = 0 then k5_ v2 else j5_ v3 (v3 + 1))))
def f_X2_soundEnd_L5 (fu : Nat) (eh : Int → Int) (x1 : Int) (k5_ : Int → Option (Int)) : Nat → Int → Int → Option (Int)
  | 0 => fun _ _ => none
  | n + 1 => f_X2_soundEnd_L5_b fu eh x1 k5_ (f_X2_soundEnd_L5 fu eh x1 k5_ n)
def f_X2_soundEnd (fu : Nat) (eh : Int → Int) (x1 : Int) (x2 : Int) : Option (Int) :=
  f_X2_soundEnd_L5 fu eh x1 (f_X2_soundEnd_X31 fu) fu x2 x2
def f_X4_sound (fu : Nat) (r_se : Int → Int) (r_tr : Int → Int) (r_fi : Int → Int) (r_la : Int → Int) (r_sh : Int → Int) (r_ac : Int → Int) (r_no : Int) (p_eh : Int → Int) (p_we : Int) (p_hf : Int → Int) (x1 : Int) (x2 : Int) (x3 : Int) : Option (Int × (Int → Int) × Int × (Int → Int)) :=
  jb (f_X4_isTrack fu x1) (fun v1 => jck v1 0 (if v1 ≠ 0 then jb3 (f_X2_perforate fu p_eh p_we p_hf r_se r_tr r_fi r_la r_sh r_ac r_no) (fun eh_m2 we_m3 hf_m4 => jb (f_X2_soundStart fu eh_m2 x1 x2) (fun v5 => jck v5 0 (if 0 ≤ v5 then jb (f_X2_soundEnd fu eh_m2 x1 v5) (fun v6 => jck x3 0 (if x3 = 0 then some (v5, eh_m2, we_m3, hf_m4) else if x3 = 1 then some (v6, eh_m2, we_m3, hf_m4) else if x3 = 2 then jb (f_X3_touching fu r_tr r_fi r_la r_no x1 v5 v6) (fun v7 => some (v7, eh_m2, we_m3, hf_m4)) else some ((-2), eh_m2, we_m3, hf_m4))) else some ((-1), eh_m2, we_m3, hf_m4)))) else some ((-1), p_eh, p_we, p_hf)))
def f_J6_bitCount_0f7a4 (fu : Nat) (x0 : Int) : Option (Int) :=
  some (jand (((jand (((jand (x0 - (jand (jushr x0 1) 1431655765)) 858993459) + (jand (jushr (x0 - (jand (jushr x0 1) 1431655765)) 2) 858993459)) + (jushr ((jand (x0 - (jand (jushr x0 1) 1431655765)) 858993459) + (jand (jushr (x0 - (jand (jushr x0 1) 1431655765)) 2) 858993459)) 4)) 252645135) + (jushr (jand (((jand (x0 - (jand (jushr x0 1) 1431655765)) 858993459) + (jand (jushr (x0 - (jand (jushr x0 1) 1431655765)) 2) 858993459)) + (jushr ((jand (x0 - (jand (jushr x0 1) 1431655765)) 858993459) + (jand (jushr (x0 - (jand (jushr x0 1) 1431655765)) 2) 858993459)) 4)) 252645135) 8)) + (jushr ((jand (((jand (x0 - (jand (jushr x0 1) 1431655765)) 858993459) + (jand (jushr (x0 - (jand (jushr x0 1) 1431655765)) 2) 858993459)) + (jushr ((jand (x0 - (jand (jushr x0 1) 1431655765)) 858993459) + (jand (jushr (x0 - (jand (jushr x0 1) 1431655765)) 2) 858993459)) 4)) 252645135) + (jushr (jand (((jand (x0 - (jand (jushr x0 1) 1431655765)) 858993459) + (jand (jushr (x0 - (jand (jushr x0 1) 1431655765)) 2) 858993459)) + (jushr ((jand (x0 - (jand (jushr x0 1) 1431655765)) 858993459) + (jand (jushr (x0 - (jand (jushr x0 1) 1431655765)) 2) 858993459)) 4)) 252645135) 8)) 16)) 63)
def f_X2_allHoles_X27 (fu : Nat)  (v1 : Int) : Option (Int) :=
  some v1
def f_X2_allHoles_L4_b (fu : Nat) (hf : Int → Int) (k4_ : Int → Option (Int)) (j4_ : Int → Int → Option (Int)) (v2 : Int) (v3 : Int) : Option (Int) :=
  jck v3 100 (if 100 ≤ v3 then k4_ v2 else jb (f_X2_holesAt fu hf v3) (fun v4 => jb (f_J6_bitCount_0f7a4 fu v4) (fun v5 => j4_ (v2 + v5) (v3 + 1))))
def f_X2_allHoles_L4 (fu : Nat) (hf : Int → Int) (k4_ : Int → Option (Int)) : Nat → Int → Int → Option (Int)
  | 0 => fun _ _ => none
  | n + 1 => f_X2_allHoles_L4_b fu hf k4_ (f_X2_allHoles_L4 fu hf k4_ n)
def f_X2_allHoles (fu : Nat) (hf : Int → Int) : Option (Int) :=
  f_X2_allHoles_L4 fu hf (f_X2_allHoles_X27 fu) fu 0 0
def f_X2_weakSteps_X27 (fu : Nat)  (v1 : Int) : Option (Int) :=
  some v1
def f_X2_weakSteps_L4_b (fu : Nat) (we : Int) (hf : Int → Int) (k4_ : Int → Option (Int)) (j4_ : Int → Int → Option (Int)) (v2 : Int) (v3 : Int) : Option (Int) :=
  jck v3 100 (if 100 ≤ v3 then k4_ v2 else jb (f_X2_isWeak fu we hf v3) (fun v4 => jck v4 0 (if v4 = 0 then j4_ v2 (v3 + 1) else j4_ (v2 + 1) (v3 + 1))))
def f_X2_weakSteps_L4 (fu : Nat) (we : Int) (hf : Int → Int) (k4_ : Int → Option (Int)) : Nat → Int → Int → Option (Int)
  | 0 => fun _ _ => none
  | n + 1 => f_X2_weakSteps_L4_b fu we hf k4_ (f_X2_weakSteps_L4 fu we hf k4_ n)
def f_X2_weakSteps (fu : Nat) (we : Int) (hf : Int → Int) : Option (Int) :=
  f_X2_weakSteps_L4 fu we hf (f_X2_weakSteps_X27 fu) fu 0 0
def f_X2_firstWeakStep_X24 (fu : Nat)   : Option (Int) :=
  some (-1)
def f_X2_firstWeakStep_L2_b (fu : Nat) (we : Int) (hf : Int → Int) (k2_ : Option (Int)) (j2_ : Int → Option (Int)) (v1 : Int) : Option (Int) :=
  jck v1 100 (if 100 ≤ v1 then k2_ else jb (f_X2_isWeak fu we hf v1) (fun v2 => jck v2 0 (if v2 = 0 then j2_ (v1 + 1) else some v1)))
def f_X2_firstWeakStep_L2 (fu : Nat) (we : Int) (hf : Int → Int) (k2_ : Option (Int)) : Nat → Int → Option (Int)
  | 0 => fun _ => none
  | n + 1 => f_X2_firstWeakStep_L2_b fu we hf k2_ (f_X2_firstWeakStep_L2 fu we hf k2_ n)
def f_X2_firstWeakStep (fu : Nat) (we : Int) (hf : Int → Int) : Option (Int) :=
  f_X2_firstWeakStep_L2 fu we hf (f_X2_firstWeakStep_X24 fu) fu 0
def f_X4_noneIfMissing (fu : Nat) (x0 : Int) : Option (Int) :=
  jck x0 0 (if 0 ≤ x0 then some x0 else some (-6))
def f_X2_sounds_X28 (fu : Nat)  (v1 : Int) : Option (Int) :=
  some v1
def f_X2_sounds_L4_b (fu : Nat) (eh : Int → Int) (x1 : Int) (k4_ : Int → Option (Int)) (j4_ : Int → Int → Option (Int)) (v2 : Int) (v3 : Int) : Option (Int) :=
  jck v3 100 (if 100 ≤ v3 then k4_ v2 else jb (f_X2_startsSound fu eh x1 v3) (fun v4 => jck v4 0 (if v4 = 0 then j4_ v2 (v3 + 1) else j4_ (v2 + 1) (v3 + 1))))
def f_X2_sounds_L4 (fu : Nat) (eh : Int → Int) (x1 : Int) (k4_ : Int → Option (Int)) : Nat → Int → Int → Option (Int)
  | 0 => fun _ _ => none
  | n + 1 => f_X2_sounds_L4_b fu eh x1 k4_ (f_X2_sounds_L4 fu eh x1 k4_ n)
def f_X2_sounds (fu : Nat) (eh : Int → Int) (x1 : Int) : Option (Int) :=
  f_X2_sounds_L4 fu eh x1 (f_X2_sounds_X28 fu) fu 0 0
def f_X4_allSounds_X27 (fu : Nat)  (v1 : Int) : Option (Int) :=
  some v1
def f_X4_allSounds_L4_b (fu : Nat) (p_eh : Int → Int) (k4_ : Int → Option (Int)) (j4_ : Int → Int → Option (Int)) (v2 : Int) (v3 : Int) : Option (Int) :=
  jck v3 12 (if 12 ≤ v3 then k4_ v2 else jb (f_X2_sounds fu p_eh v3) (fun v4 => j4_ (v2 + v4) (v3 + 1)))
def f_X4_allSounds_L4 (fu : Nat) (p_eh : Int → Int) (k4_ : Int → Option (Int)) : Nat → Int → Int → Option (Int)
  | 0 => fun _ _ => none
  | n + 1 => f_X4_allSounds_L4_b fu p_eh k4_ (f_X4_allSounds_L4 fu p_eh k4_ n)
def f_X4_allSounds (fu : Nat) (p_eh : Int → Int) : Option (Int) :=
  f_X4_allSounds_L4 fu p_eh (f_X4_allSounds_X27 fu) fu 0 0
def f_X4_notesWithGap_X32 (fu : Nat)  (v1 : Int) : Option (Int) :=
  some v1
def f_X4_notesWithGap_L4_b (fu : Nat) (r_tr : Int → Int) (r_fi : Int → Int) (r_la : Int → Int) (r_no : Int) (p_eh : Int → Int) (k4_ : Int → Option (Int)) (j4_ : Int → Int → Option (Int)) (v2 : Int) (v3 : Int) : Option (Int) :=
  jb (f_X3_size fu r_no) (fun v4 => jck v3 v4 (if v4 ≤ v3 then k4_ v2 else jb (f_X4_isHeardWhole fu r_tr r_fi r_la r_no p_eh v3) (fun v5 => jck v5 0 (if v5 ≠ 0 then j4_ v2 (v3 + 1) else j4_ (v2 + 1) (v3 + 1)))))
def f_X4_notesWithGap_L4 (fu : Nat) (r_tr : Int → Int) (r_fi : Int → Int) (r_la : Int → Int) (r_no : Int) (p_eh : Int → Int) (k4_ : Int → Option (Int)) : Nat → Int → Int → Option (Int)
  | 0 => fun _ _ => none
  | n + 1 => f_X4_notesWithGap_L4_b fu r_tr r_fi r_la r_no p_eh k4_ (f_X4_notesWithGap_L4 fu r_tr r_fi r_la r_no p_eh k4_ n)
def f_X4_notesWithGap (fu : Nat) (r_tr : Int → Int) (r_fi : Int → Int) (r_la : Int → Int) (r_no : Int) (p_eh : Int → Int) : Option (Int) :=
  f_X4_notesWithGap_L4 fu r_tr r_fi r_la r_no p_eh (f_X4_notesWithGap_X32 fu) fu 0 0
def f_X1_length (fu : Nat) (le : Int) : Option (Int) :=
  some le
def f_X0_size (fu : Nat) (si : Int) : Option (Int) :=
  some si
def f_X4_count (fu : Nat) (r_se : Int → Int) (r_tr : Int → Int) (r_fi : Int → Int) (r_la : Int → Int) (r_sh : Int → Int) (r_ac : Int → Int) (r_no : Int) (p_eh : Int → Int) (p_we : Int) (p_hf : Int → Int) (d_le : Int) (g_si : Int) (x1 : Int) : Option (Int × (Int → Int) × Int × (Int → Int)) :=
  jb3 (f_X2_perforate fu p_eh p_we p_hf r_se r_tr r_fi r_la r_sh r_ac r_no) (fun eh_m1 we_m2 hf_m3 => jck x1 0 (if x1 = 0 then jb (f_X3_size fu r_no) (fun v4 => some (v4, eh_m1, we_m2, hf_m3)) else if x1 = 1 then jb (f_X2_allHoles fu hf_m3) (fun v5 => some (v5, eh_m1, we_m2, hf_m3)) else if x1 = 2 then jb (f_X2_weakSteps fu we_m2 hf_m3) (fun v6 => some (v6, eh_m1, we_m2, hf_m3)) else if x1 = 3 then jb (f_X2_firstWeakStep fu we_m2 hf_m3) (fun v7 => jb (f_X4_noneIfMissing fu v7) (fun v8 => some (v8, eh_m1, we_m2, hf_m3))) else if x1 = 4 then jb (f_X4_allSounds fu eh_m1) (fun v9 => some (v9, eh_m1, we_m2, hf_m3)) else if x1 = 5 then jb (f_X4_notesWithGap fu r_tr r_fi r_la r_no eh_m1) (fun v10 => some (v10, eh_m1, we_m2, hf_m3)) else if x1 = 6 then jb (f_X3_greatestLast fu r_la r_no) (fun v11 => jb (f_X4_noneIfMissing fu v11) (fun v12 => some (v12, eh_m1, we_m2, hf_m3))) else if x1 = 7 then jb (f_X3_settingOf fu r_se 0) (fun v13 => some (v13, eh_m1, we_m2, hf_m3)) else if x1 = 8 then jb (f_X3_settingOf fu r_se 1) (fun v14 => some (v14, eh_m1, we_m2, hf_m3)) else if x1 = 9 then jb (f_X3_settingOf fu r_se 2) (fun v15 => some (v15, eh_m1, we_m2, hf_m3)) else if x1 = 10 then jb (f_X3_settingOf fu r_se 3) (fun v16 => some (v16, eh_m1, we_m2, hf_m3)) else if x1 = 11 then jb (f_X1_length fu d_le) (fun v17 => some (v17, eh_m1, we_m2, hf_m3)) else if x1 = 12 then jb (f_X0_size fu g_si) (fun v18 => some (v18, eh_m1, we_m2, hf_m3)) else some ((-2), eh_m1, we_m2, hf_m3)))
def f_X4_bestShift_X102 (fu : Nat) (x2 : Int) (u_se_m10 : Int → Int) (u_tr_m11 : Int → Int) (u_fi_m12 : Int → Int) (u_la_m13 : Int → Int) (u_sh_m14 : Int → Int) (u_ac_m15 : Int → Int) (u_no_m16 : Int) (p_eh_m17 : Int → Int) (p_we_m18 : Int) (p_hf_m19 : Int → Int) (v20 : Int) (v21 : Int) : Option (Int × (Int → Int) × (Int → Int) × (Int → Int) × (Int → Int) × (Int → Int) × (Int → Int) × Int × (Int → Int) × Int × (Int → Int)) :=
  jck x2 0 (if x2 ≠ 0 then some (v21, u_se_m10, u_tr_m11, u_fi_m12, u_la_m13, u_sh_m14, u_ac_m15, u_no_m16, p_eh_m17, p_we_m18, p_hf_m19) else some (v20, u_se_m10, u_tr_m11, u_fi_m12, u_la_m13, u_sh_m14, u_ac_m15, u_no_m16, p_eh_m17, p_we_m18, p_hf_m19))
def f_X4_bestShift_L45_b (fu : Nat) (x1 : Int) (k45_ : (Int → Int) → (Int → Int) → (Int → Int) → (Int → Int) → (Int → Int) → (Int → Int) → Int → (Int → Int) → Int → (Int → Int) → Int → Int → Option (Int × (Int → Int) × (Int → Int) × (Int → Int) × (Int → Int) × (Int → Int) × (Int → Int) × Int × (Int → Int) × Int × (Int → Int))) (j45_ : (Int → Int) → (Int → Int) → (Int → Int) → (Int → Int) → (Int → Int) → (Int → Int) → Int → (Int → Int) → Int → (Int → Int) → Int → Int → Int → Option (Int × (Int → Int) × (Int → Int) × (Int → Int) × (Int → Int) × (Int → Int) × (Int → Int) × Int × (Int → Int) × Int × (Int → Int))) (u_se_m22 : Int → Int) (u_tr_m23 : Int → Int) (u_fi_m24 : Int → Int) (u_la_m25 : Int → Int) (u_sh_m26 : Int → Int) (u_ac_m27 : Int → Int) (u_no_m28 : Int) (p_eh_m29 : Int → Int) (p_we_m30 : Int) (p_hf_m31 : Int → Int) (v32 : Int) (v33 : Int) (v34 : Int) : Option (Int × (Int → Int) × (Int → Int) × (Int → Int) × (Int → Int) × (Int → Int) × (Int → Int) × Int × (Int → Int) × Int × (Int → Int)) :=
  jck v34 12 (if 12 < v34 then k45_ u_se_m22 u_tr_m23 u_fi_m24 u_la_m25 u_sh_m26 u_ac_m27 u_no_m28 p_eh_m29 p_we_m30 p_hf_m31 v32 v33 else jb (f_X3_giveShift fu u_sh_m26 u_no_m28 x1 v34) (fun sh_m35 => jb3 (f_X2_perforate fu p_eh_m29 p_we_m30 p_hf_m31 u_se_m22 u_tr_m23 u_fi_m24 u_la_m25 sh_m35 u_ac_m27 u_no_m28) (fun eh_m36 we_m37 hf_m38 => jb (f_X2_weakSteps fu we_m37 hf_m38) (fun v39 => jck v39 v33 (if v33 ≤ v39 then j45_ u_se_m22 u_tr_m23 u_fi_m24 u_la_m25 sh_m35 u_ac_m27 u_no_m28 eh_m36 we_m37 hf_m38 v32 v33 (v34 + 1) else j45_ u_se_m22 u_tr_m23 u_fi_m24 u_la_m25 sh_m35 u_ac_m27 u_no_m28 eh_m36 we_m37 hf_m38 v34 v39 (v34 + 1))))))
def f_X4_bestShift_L45 (fu : Nat) (x1 : Int) (k45_ : (Int → Int) → (Int → Int) → (Int → Int) → (Int → Int) → (Int → Int) → (Int → Int) → Int → (Int → Int) → Int → (Int → Int) → Int → Int → Option (Int × (Int → Int) × (Int → Int) × (Int → Int) × (Int → Int) × (Int → Int) × (Int → Int) × Int × (Int → Int) × Int × (Int → Int))) : Nat → (Int → Int) → (Int → Int) → (Int → Int) → (Int → Int) → (Int → Int) → (Int → Int) → Int → (Int → Int) → Int → (Int → Int) → Int → Int → Int → Option (Int × (Int → Int) × (Int → Int) × (Int → Int) × (Int → Int) × (Int → Int) × (Int → Int) × Int × (Int → Int) × Int × (Int → Int))
  | 0 => fun _ _ _ _ _ _ _ _ _ _ _ _ _ => none
  | n + 1 => f_X4_bestShift_L45_b fu x1 k45_ (f_X4_bestShift_L45 fu x1 k45_ n)
def f_X4_bestShift (fu : Nat) (r_se : Int → Int) (r_tr : Int → Int) (r_fi : Int → Int) (r_la : Int → Int) (r_sh : Int → Int) (r_ac : Int → Int) (r_no : Int) (u_se : Int → Int) (u_tr : Int → Int) (u_fi : Int → Int) (u_la : Int → Int) (u_sh : Int → Int) (u_ac : Int → Int) (u_no : Int) (p_eh : Int → Int) (p_we : Int) (p_hf : Int → Int) (x1 : Int) (x2 : Int) : Option (Int × (Int → Int) × (Int → Int) × (Int → Int) × (Int → Int) × (Int → Int) × (Int → Int) × Int × (Int → Int) × Int × (Int → Int)) :=
  jb (f_X3_has fu r_no x1) (fun v1 => jck v1 0 (if v1 ≠ 0 then jb (f_X4_isIn fu x2 0 1) (fun v2 => jck v2 0 (if v2 ≠ 0 then jb7 (f_X3_become fu u_se u_tr u_fi u_la u_sh u_ac u_no r_se r_tr r_fi r_la r_sh r_ac r_no) (fun se_m3 tr_m4 fi_m5 la_m6 sh_m7 ac_m8 no_m9 => f_X4_bestShift_L45 fu x1 (f_X4_bestShift_X102 fu x2) fu se_m3 tr_m4 fi_m5 la_m6 sh_m7 ac_m8 no_m9 p_eh p_we p_hf 0 101 0) else some ((-2), u_se, u_tr, u_fi, u_la, u_sh, u_ac, u_no, p_eh, p_we, p_hf))) else some ((-1), u_se, u_tr, u_fi, u_la, u_sh, u_ac, u_no, p_eh, p_we, p_hf)))
def f_X4_greatestRun_X64 (fu : Nat)  (u_se_m8 : Int → Int) (u_tr_m9 : Int → Int) (u_fi_m10 : Int → Int) (u_la_m11 : Int → Int) (u_sh_m12 : Int → Int) (u_ac_m13 : Int → Int) (u_no_m14 : Int) (p_eh_m15 : Int → Int) (p_we_m16 : Int) (p_hf_m17 : Int → Int) : Option (Int × (Int → Int) × (Int → Int) × (Int → Int) × (Int → Int) × (Int → Int) × (Int → Int) × Int × (Int → Int) × Int × (Int → Int)) :=
  some ((-6), u_se_m8, u_tr_m9, u_fi_m10, u_la_m11, u_sh_m12, u_ac_m13, u_no_m14, p_eh_m15, p_we_m16, p_hf_m17)
def f_X4_greatestRun_L17_b (fu : Nat) (k17_ : (Int → Int) → (Int → Int) → (Int → Int) → (Int → Int) → (Int → Int) → (Int → Int) → Int → (Int → Int) → Int → (Int → Int) → Option (Int × (Int → Int) × (Int → Int) × (Int → Int) × (Int → Int) × (Int → Int) × (Int → Int) × Int × (Int → Int) × Int × (Int → Int))) (j17_ : (Int → Int) → (Int → Int) → (Int → Int) → (Int → Int) → (Int → Int) → (Int → Int) → Int → (Int → Int) → Int → (Int → Int) → Int → Option (Int × (Int → Int) × (Int → Int) × (Int → Int) × (Int → Int) × (Int → Int) × (Int → Int) × Int × (Int → Int) × Int × (Int → Int))) (u_se_m18 : Int → Int) (u_tr_m19 : Int → Int) (u_fi_m20 : Int → Int) (u_la_m21 : Int → Int) (u_sh_m22 : Int → Int) (u_ac_m23 : Int → Int) (u_no_m24 : Int) (p_eh_m25 : Int → Int) (p_we_m26 : Int) (p_hf_m27 : Int → Int) (v28 : Int) : Option (Int × (Int → Int) × (Int → Int) × (Int → Int) × (Int → Int) × (Int → Int) × (Int → Int) × Int × (Int → Int) × Int × (Int → Int)) :=
  jix 4 0 (jck v28 (jL (Int.toNat 0)) (if v28 < (jL (Int.toNat 0)) then k17_ u_se_m18 u_tr_m19 u_fi_m20 u_la_m21 u_sh_m22 u_ac_m23 u_no_m24 p_eh_m25 p_we_m26 p_hf_m27 else jb (f_X3_giveSetting fu u_se_m18 0 v28) (fun se_m29 => jb3 (f_X2_perforate fu p_eh_m25 p_we_m26 p_hf_m27 se_m29 u_tr_m19 u_fi_m20 u_la_m21 u_sh_m22 u_ac_m23 u_no_m24) (fun eh_m30 we_m31 hf_m32 => jb (f_X2_weakSteps fu we_m31 hf_m32) (fun v33 => jck v33 0 (if v33 ≠ 0 then j17_ se_m29 u_tr_m19 u_fi_m20 u_la_m21 u_sh_m22 u_ac_m23 u_no_m24 eh_m30 we_m31 hf_m32 (v28 + (-1)) else some (v28, se_m29, u_tr_m19, u_fi_m20, u_la_m21, u_sh_m22, u_ac_m23, u_no_m24, eh_m30, we_m31, hf_m32)))))))
def f_X4_greatestRun_L17 (fu : Nat) (k17_ : (Int → Int) → (Int → Int) → (Int → Int) → (Int → Int) → (Int → Int) → (Int → Int) → Int → (Int → Int) → Int → (Int → Int) → Option (Int × (Int → Int) × (Int → Int) × (Int → Int) × (Int → Int) × (Int → Int) × (Int → Int) × Int × (Int → Int) × Int × (Int → Int))) : Nat → (Int → Int) → (Int → Int) → (Int → Int) → (Int → Int) → (Int → Int) → (Int → Int) → Int → (Int → Int) → Int → (Int → Int) → Int → Option (Int × (Int → Int) × (Int → Int) × (Int → Int) × (Int → Int) × (Int → Int) × (Int → Int) × Int × (Int → Int) × Int × (Int → Int))
  | 0 => fun _ _ _ _ _ _ _ _ _ _ _ => none
  | n + 1 => f_X4_greatestRun_L17_b fu k17_ (f_X4_greatestRun_L17 fu k17_ n)
def f_X4_greatestRun (fu : Nat) (r_se : Int → Int) (r_tr : Int → Int) (r_fi : Int → Int) (r_la : Int → Int) (r_sh : Int → Int) (r_ac : Int → Int) (r_no : Int) (u_se : Int → Int) (u_tr : Int → Int) (u_fi : Int → Int) (u_la : Int → Int) (u_sh : Int → Int) (u_ac : Int → Int) (u_no : Int) (p_eh : Int → Int) (p_we : Int) (p_hf : Int → Int) : Option (Int × (Int → Int) × (Int → Int) × (Int → Int) × (Int → Int) × (Int → Int) × (Int → Int) × Int × (Int → Int) × Int × (Int → Int)) :=
  jb7 (f_X3_become fu u_se u_tr u_fi u_la u_sh u_ac u_no r_se r_tr r_fi r_la r_sh r_ac r_no) (fun se_m1 tr_m2 fi_m3 la_m4 sh_m5 ac_m6 no_m7 => jix 4 0 (f_X4_greatestRun_L17 fu (f_X4_greatestRun_X64 fu) fu se_m1 tr_m2 fi_m3 la_m4 sh_m5 ac_m6 no_m7 p_eh p_we p_hf (jG (Int.toNat 0))))
def f_X4_swallowed_X77 (fu : Nat) (eh_m2 : Int → Int) (we_m3 : Int) (hf_m4 : Int → Int) (v5 : Int) : Option (Int × (Int → Int) × Int × (Int → Int)) :=
  some (v5, eh_m2, we_m3, hf_m4)
def f_X4_swallowed_L24_b (fu : Nat) (r_tr : Int → Int) (r_fi : Int → Int) (r_no : Int) (x1 : Int) (eh_m2 : Int → Int) (k24_ : Int → Option (Int × (Int → Int) × Int × (Int → Int))) (j24_ : Int → Int → Option (Int × (Int → Int) × Int × (Int → Int))) (v6 : Int) (v7 : Int) : Option (Int × (Int → Int) × Int × (Int → Int)) :=
  jb (f_X3_size fu r_no) (fun v8 => jck v7 v8 (if v8 ≤ v7 then k24_ v6 else jb (f_X3_trackOf fu r_tr r_no v7) (fun v9 => jck v9 x1 (if v9 ≠ x1 then j24_ v6 (v7 + 1) else jb (f_X3_firstOf fu r_fi r_no v7) (fun v10 => jb (f_X2_isHeard fu eh_m2 x1 (v10 - 1)) (fun v11 => jck v11 0 (if v11 = 0 then j24_ v6 (v7 + 1) else j24_ (v6 + 1) (v7 + 1))))))))
def f_X4_swallowed_L24 (fu : Nat) (r_tr : Int → Int) (r_fi : Int → Int) (r_no : Int) (x1 : Int) (eh_m2 : Int → Int) (k24_ : Int → Option (Int × (Int → Int) × Int × (Int → Int))) : Nat → Int → Int → Option (Int × (Int → Int) × Int × (Int → Int))
  | 0 => fun _ _ => none
  | n + 1 => f_X4_swallowed_L24_b fu r_tr r_fi r_no x1 eh_m2 k24_ (f_X4_swallowed_L24 fu r_tr r_fi r_no x1 eh_m2 k24_ n)
def f_X4_swallowed (fu : Nat) (r_se : Int → Int) (r_tr : Int → Int) (r_fi : Int → Int) (r_la : Int → Int) (r_sh : Int → Int) (r_ac : Int → Int) (r_no : Int) (p_eh : Int → Int) (p_we : Int) (p_hf : Int → Int) (x1 : Int) : Option (Int × (Int → Int) × Int × (Int → Int)) :=
  jb (f_X4_isTrack fu x1) (fun v1 => jck v1 0 (if v1 ≠ 0 then jb3 (f_X2_perforate fu p_eh p_we p_hf r_se r_tr r_fi r_la r_sh r_ac r_no) (fun eh_m2 we_m3 hf_m4 => f_X4_swallowed_L24 fu r_tr r_fi r_no x1 eh_m2 (f_X4_swallowed_X77 fu eh_m2 we_m3 hf_m4) fu 0 0) else some ((-1), p_eh, p_we, p_hf)))
def f_X4_freeGoal_X72 (fu : Nat)   : Option (Int) :=
  some (-6)
def f_X4_freeGoal_L45_b (fu : Nat) (r_tr : Int → Int) (r_fi : Int → Int) (r_la : Int → Int) (r_no : Int) (x1 : Int) (x2 : Int) (k45_ : Option (Int)) (j45_ : Int → Option (Int)) (v4 : Int) : Option (Int) :=
  jck v4 100 (if 100 ≤ v4 then k45_ else jb (f_X4_isFreeAt fu r_tr r_fi r_la r_no x1 x2 v4) (fun v5 => jck v5 0 (if v5 = 0 then j45_ (v4 + 1) else some v4)))
def f_X4_freeGoal_L45 (fu : Nat) (r_tr : Int → Int) (r_fi : Int → Int) (r_la : Int → Int) (r_no : Int) (x1 : Int) (x2 : Int) (k45_ : Option (Int)) : Nat → Int → Option (Int)
  | 0 => fun _ => none
  | n + 1 => f_X4_freeGoal_L45_b fu r_tr r_fi r_la r_no x1 x2 k45_ (f_X4_freeGoal_L45 fu r_tr r_fi r_la r_no x1 x2 k45_ n)
def f_X4_freeGoal (fu : Nat) (r_tr : Int → Int) (r_fi : Int → Int) (r_la : Int → Int) (r_no : Int) (x1 : Int) (x2 : Int) : Option (Int) :=
  jb (f_X4_isPassage fu x1 x2) (fun v1 => jck v1 0 (if v1 ≠ 0 then jb (f_X3_within fu r_fi r_la r_no x1 x2) (fun v2 => jck v2 0 (if v2 = 0 then some (-6) else jb (f_X3_size fu r_no) (fun v3 => jck (v3 + v2) 40 (if (v3 + v2) ≤ 40 then f_X4_freeGoal_L45 fu r_tr r_fi r_la r_no x1 x2 (f_X4_freeGoal_X72 fu) fu 0 else some (-6))))) else some (-2)))
def f_X4_codeIn (fu : Nat) (w0 : Int64) (x2 : Int) : Option (Int) :=
  jb (f_X4_isIn fu x2 0 7) (fun v1 => jck v1 0 (if v1 = 0 then some 0 else some (jand (jl2i (jlushr w0 (8 * x2))) 255)))
def f_X4_charactersIn_X54 (fu : Nat)   : Option (Int) :=
  some 8
def f_X4_charactersIn_L2_b (fu : Nat) (w0 : Int64) (k2_ : Option (Int)) (j2_ : Int → Option (Int)) (v1 : Int) : Option (Int) :=
  jck v1 8 (if 8 ≤ v1 then k2_ else jb (f_X4_codeIn fu w0 v1) (fun v2 => jck v2 0 (if v2 ≠ 0 then jb (f_X4_isIn fu v2 33 126) (fun v3 => jck v3 0 (if v3 ≠ 0 then j2_ (v1 + 1) else some 0)) else jck (jlcmp (jlushr w0 (8 * v1)) 0) 0 (if (jlcmp (jlushr w0 (8 * v1)) 0) ≠ 0 then some 0 else some v1))))
def f_X4_charactersIn_L2 (fu : Nat) (w0 : Int64) (k2_ : Option (Int)) : Nat → Int → Option (Int)
  | 0 => fun _ => none
  | n + 1 => f_X4_charactersIn_L2_b fu w0 k2_ (f_X4_charactersIn_L2 fu w0 k2_ n)
def f_X4_charactersIn (fu : Nat) (w0 : Int64) : Option (Int) :=
  f_X4_charactersIn_L2 fu w0 (f_X4_charactersIn_X54 fu) fu 0
def f_X1_append (fu : Nat) (tx : Int → Int) (le : Int) (x1 : Int) : Option ((Int → Int) × Int) :=
  jck le 60 (if 60 ≤ le then some (tx, le) else jix 60 le (jch x1 (some ((uI tx le x1), (le + 1)))))
def f_X4_put_X59 (fu : Nat)  (d_tx_m3 : Int → Int) (d_le_m4 : Int) : Option (Int × (Int → Int) × Int) :=
  jb (f_X1_length fu d_le_m4) (fun v5 => some (v5, d_tx_m3, d_le_m4))
def f_X4_put_L34_b (fu : Nat) (w1 : Int64) (k34_ : (Int → Int) → Int → Option (Int × (Int → Int) × Int)) (j34_ : (Int → Int) → Int → Int → Option (Int × (Int → Int) × Int)) (d_tx_m6 : Int → Int) (d_le_m7 : Int) (v8 : Int) : Option (Int × (Int → Int) × Int) :=
  jck v8 0 (if v8 < 0 then k34_ d_tx_m6 d_le_m7 else jb (f_X4_codeIn fu w1 v8) (fun v9 => jch v9 (jb2 (f_X1_append fu d_tx_m6 d_le_m7 v9) (fun tx_m10 le_m11 => j34_ tx_m10 le_m11 (v8 + (-1))))))
def f_X4_put_L34 (fu : Nat) (w1 : Int64) (k34_ : (Int → Int) → Int → Option (Int × (Int → Int) × Int)) : Nat → (Int → Int) → Int → Int → Option (Int × (Int → Int) × Int)
  | 0 => fun _ _ _ => none
  | n + 1 => f_X4_put_L34_b fu w1 k34_ (f_X4_put_L34 fu w1 k34_ n)
def f_X4_put (fu : Nat) (d_tx : Int → Int) (d_le : Int) (w1 : Int64) : Option (Int × (Int → Int) × Int) :=
  jb (f_X4_charactersIn fu w1) (fun v1 => jck v1 0 (if v1 ≠ 0 then jb (f_X1_length fu d_le) (fun v2 => jck (v2 + v1) 60 (if (v2 + v1) ≤ 60 then f_X4_put_L34 fu w1 (f_X4_put_X59 fu) fu d_tx d_le (v1 - 1) else some ((-4), d_tx, d_le))) else some ((-2), d_tx, d_le)))
def f_X4_wipe (fu : Nat) (d_le : Int) : Option (Int × Int) :=
  jb (f_X1_length fu d_le) (fun v1 => jb (f_X1_clear fu d_le) (fun le_m2 => some (v1, le_m2)))
def f_X1_position (fu : Nat) (po : Int) : Option (Int) :=
  some po
def f_X4_fault (fu : Nat) (d_tx : Int → Int) (d_le : Int) (d_po : Int) (d_pt : Int → Int) (d_pf : Int → Int) (d_pl : Int → Int) (d_pa : Int → Int) (d_fo : Int) : Option (Int × Int × (Int → Int) × (Int → Int) × (Int → Int) × (Int → Int) × Int) :=
  jb7 (f_X1_scan fu d_tx d_le d_po d_pt d_pf d_pl d_pa d_fo) (fun v1 po_m2 pt_m3 pf_m4 pl_m5 pa_m6 fo_m7 => jck v1 0 (if v1 = 0 then jb (f_X1_position fu po_m2) (fun v8 => some (v8, po_m2, pt_m3, pf_m4, pl_m5, pa_m6, fo_m7)) else some ((-6), po_m2, pt_m3, pf_m4, pl_m5, pa_m6, fo_m7)))
def f_X0_takeBack (fu : Nat) (ol : Int) (si : Int) (k_se : Int → Int → Int) (k_tr : Int → Int → Int) (k_fi : Int → Int → Int) (k_la : Int → Int → Int) (k_sh : Int → Int → Int) (k_ac : Int → Int → Int) (k_no : Int → Int) (o_se : Int → Int) (o_tr : Int → Int) (o_fi : Int → Int) (o_la : Int → Int) (o_sh : Int → Int) (o_ac : Int → Int) (o_no : Int) : Option (Int × (Int → Int) × (Int → Int) × (Int → Int) × (Int → Int) × (Int → Int) × (Int → Int) × Int) :=
  jck si 0 (if si ≤ 0 then some (si, o_se, o_tr, o_fi, o_la, o_sh, o_ac, o_no) else jb (f_X0_placeOf fu ol (si - 1)) (fun v1 => jix 6 v1 (if v1 = 0 then jb7 (f_X3_become fu o_se o_tr o_fi o_la o_sh o_ac o_no (k_se 0) (k_tr 0) (k_fi 0) (k_la 0) (k_sh 0) (k_ac 0) (k_no 0)) (fun se_m2 tr_m3 fi_m4 la_m5 sh_m6 ac_m7 no_m8 => some ((si - 1), se_m2, tr_m3, fi_m4, la_m5, sh_m6, ac_m7, no_m8)) else if v1 = 1 then jb7 (f_X3_become fu o_se o_tr o_fi o_la o_sh o_ac o_no (k_se 1) (k_tr 1) (k_fi 1) (k_la 1) (k_sh 1) (k_ac 1) (k_no 1)) (fun se_m9 tr_m10 fi_m11 la_m12 sh_m13 ac_m14 no_m15 => some ((si - 1), se_m9, tr_m10, fi_m11, la_m12, sh_m13, ac_m14, no_m15)) else if v1 = 2 then jb7 (f_X3_become fu o_se o_tr o_fi o_la o_sh o_ac o_no (k_se 2) (k_tr 2) (k_fi 2) (k_la 2) (k_sh 2) (k_ac 2) (k_no 2)) (fun se_m16 tr_m17 fi_m18 la_m19 sh_m20 ac_m21 no_m22 => some ((si - 1), se_m16, tr_m17, fi_m18, la_m19, sh_m20, ac_m21, no_m22)) else if v1 = 3 then jb7 (f_X3_become fu o_se o_tr o_fi o_la o_sh o_ac o_no (k_se 3) (k_tr 3) (k_fi 3) (k_la 3) (k_sh 3) (k_ac 3) (k_no 3)) (fun se_m23 tr_m24 fi_m25 la_m26 sh_m27 ac_m28 no_m29 => some ((si - 1), se_m23, tr_m24, fi_m25, la_m26, sh_m27, ac_m28, no_m29)) else if v1 = 4 then jb7 (f_X3_become fu o_se o_tr o_fi o_la o_sh o_ac o_no (k_se 4) (k_tr 4) (k_fi 4) (k_la 4) (k_sh 4) (k_ac 4) (k_no 4)) (fun se_m30 tr_m31 fi_m32 la_m33 sh_m34 ac_m35 no_m36 => some ((si - 1), se_m30, tr_m31, fi_m32, la_m33, sh_m34, ac_m35, no_m36)) else jb7 (f_X3_become fu o_se o_tr o_fi o_la o_sh o_ac o_no (k_se 5) (k_tr 5) (k_fi 5) (k_la 5) (k_sh 5) (k_ac 5) (k_no 5)) (fun se_m37 tr_m38 fi_m39 la_m40 sh_m41 ac_m42 no_m43 => some ((si - 1), se_m37, tr_m38, fi_m39, la_m40, sh_m41, ac_m42, no_m43)))))
def f_X4_undo (fu : Nat) (r_se : Int → Int) (r_tr : Int → Int) (r_fi : Int → Int) (r_la : Int → Int) (r_sh : Int → Int) (r_ac : Int → Int) (r_no : Int) (g_ol : Int) (g_si : Int) (k_se : Int → Int → Int) (k_tr : Int → Int → Int) (k_fi : Int → Int → Int) (k_la : Int → Int → Int) (k_sh : Int → Int → Int) (k_ac : Int → Int → Int) (k_no : Int → Int) : Option (Int × (Int → Int) × (Int → Int) × (Int → Int) × (Int → Int) × (Int → Int) × (Int → Int) × Int × Int) :=
  jb (f_X0_size fu g_si) (fun v1 => jck v1 0 (if v1 ≠ 0 then jb8 (f_X0_takeBack fu g_ol g_si k_se k_tr k_fi k_la k_sh k_ac k_no r_se r_tr r_fi r_la r_sh r_ac r_no) (fun si_m2 o_se_m3 o_tr_m4 o_fi_m5 o_la_m6 o_sh_m7 o_ac_m8 o_no_m9 => jb (f_X0_size fu si_m2) (fun v10 => some (v10, o_se_m3, o_tr_m4, o_fi_m5, o_la_m6, o_sh_m7, o_ac_m8, o_no_m9, si_m2))) else some ((-5), r_se, r_tr, r_fi, r_la, r_sh, r_ac, r_no, g_si)))
def f_X4_save (fu : Nat) (sv : Int → Int) (r_se : Int → Int) (r_tr : Int → Int) (r_fi : Int → Int) (r_la : Int → Int) (r_sh : Int → Int) (r_ac : Int → Int) (r_no : Int) (s_se : Int → Int → Int) (s_tr : Int → Int → Int) (s_fi : Int → Int → Int) (s_la : Int → Int → Int) (s_sh : Int → Int → Int) (s_ac : Int → Int → Int) (s_no : Int → Int) (x1 : Int) : Option (Int × (Int → Int) × (Int → Int → Int) × (Int → Int → Int) × (Int → Int → Int) × (Int → Int → Int) × (Int → Int → Int) × (Int → Int → Int) × (Int → Int)) :=
  jb (f_X4_isIn fu x1 0 1) (fun v1 => jck v1 0 (if v1 ≠ 0 then jix 2 x1 (if x1 = 0 then jb7 (f_X3_become fu (s_se 0) (s_tr 0) (s_fi 0) (s_la 0) (s_sh 0) (s_ac 0) (s_no 0) r_se r_tr r_fi r_la r_sh r_ac r_no) (fun se_m2 tr_m3 fi_m4 la_m5 sh_m6 ac_m7 no_m8 => jix 2 x1 (jbo 1 (jb (f_X3_size fu r_no) (fun v9 => some (v9, (uI sv x1 1), (uI s_se 0 se_m2), (uI s_tr 0 tr_m3), (uI s_fi 0 fi_m4), (uI s_la 0 la_m5), (uI s_sh 0 sh_m6), (uI s_ac 0 ac_m7), (uI s_no 0 no_m8)))))) else jb7 (f_X3_become fu (s_se 1) (s_tr 1) (s_fi 1) (s_la 1) (s_sh 1) (s_ac 1) (s_no 1) r_se r_tr r_fi r_la r_sh r_ac r_no) (fun se_m10 tr_m11 fi_m12 la_m13 sh_m14 ac_m15 no_m16 => jix 2 x1 (jbo 1 (jb (f_X3_size fu r_no) (fun v17 => some (v17, (uI sv x1 1), (uI s_se 1 se_m10), (uI s_tr 1 tr_m11), (uI s_fi 1 fi_m12), (uI s_la 1 la_m13), (uI s_sh 1 sh_m14), (uI s_ac 1 ac_m15), (uI s_no 1 no_m16))))))) else some ((-2), sv, s_se, s_tr, s_fi, s_la, s_sh, s_ac, s_no)))
def f_X4_restore (fu : Nat) (sv : Int → Int) (r_se : Int → Int) (r_tr : Int → Int) (r_fi : Int → Int) (r_la : Int → Int) (r_sh : Int → Int) (r_ac : Int → Int) (r_no : Int) (g_ol : Int) (g_si : Int) (k_se : Int → Int → Int) (k_tr : Int → Int → Int) (k_fi : Int → Int → Int) (k_la : Int → Int → Int) (k_sh : Int → Int → Int) (k_ac : Int → Int → Int) (k_no : Int → Int) (s_se : Int → Int → Int) (s_tr : Int → Int → Int) (s_fi : Int → Int → Int) (s_la : Int → Int → Int) (s_sh : Int → Int → Int) (s_ac : Int → Int → Int) (s_no : Int → Int) (x1 : Int) : Option (Int × (Int → Int) × (Int → Int) × (Int → Int) × (Int → Int) × (Int → Int) × (Int → Int) × Int × Int × Int × (Int → Int → Int) × (Int → Int → Int) × (Int → Int → Int) × (Int → Int → Int) × (Int → Int → Int) × (Int → Int → Int) × (Int → Int)) :=
  jb (f_X4_isIn fu x1 0 1) (fun v1 => jck v1 0 (if v1 ≠ 0 then jix 2 x1 (jck (sv x1) 0 (if (sv x1) ≠ 0 then jb9 (f_X0_record fu g_ol g_si k_se k_tr k_fi k_la k_sh k_ac k_no r_se r_tr r_fi r_la r_sh r_ac r_no) (fun ol_m2 si_m3 k_se_m4 k_tr_m5 k_fi_m6 k_la_m7 k_sh_m8 k_ac_m9 k_no_m10 => jix 2 x1 (if x1 = 0 then jb7 (f_X3_become fu r_se r_tr r_fi r_la r_sh r_ac r_no (s_se 0) (s_tr 0) (s_fi 0) (s_la 0) (s_sh 0) (s_ac 0) (s_no 0)) (fun se_m11 tr_m12 fi_m13 la_m14 sh_m15 ac_m16 no_m17 => jb (f_X3_size fu no_m17) (fun v18 => some (v18, se_m11, tr_m12, fi_m13, la_m14, sh_m15, ac_m16, no_m17, ol_m2, si_m3, k_se_m4, k_tr_m5, k_fi_m6, k_la_m7, k_sh_m8, k_ac_m9, k_no_m10))) else jb7 (f_X3_become fu r_se r_tr r_fi r_la r_sh r_ac r_no (s_se 1) (s_tr 1) (s_fi 1) (s_la 1) (s_sh 1) (s_ac 1) (s_no 1)) (fun se_m19 tr_m20 fi_m21 la_m22 sh_m23 ac_m24 no_m25 => jb (f_X3_size fu no_m25) (fun v26 => some (v26, se_m19, tr_m20, fi_m21, la_m22, sh_m23, ac_m24, no_m25, ol_m2, si_m3, k_se_m4, k_tr_m5, k_fi_m6, k_la_m7, k_sh_m8, k_ac_m9, k_no_m10))))) else some ((-5), r_se, r_tr, r_fi, r_la, r_sh, r_ac, r_no, g_ol, g_si, k_se, k_tr, k_fi, k_la, k_sh, k_ac, k_no))) else some ((-2), r_se, r_tr, r_fi, r_la, r_sh, r_ac, r_no, g_ol, g_si, k_se, k_tr, k_fi, k_la, k_sh, k_ac, k_no)))
def f_X5_moves_X29 (fu : Nat)  (q2f_m1 : Int → Int) : Option ((Int → Int)) :=
  some q2f_m1
def f_X5_moves_L3_b (fu : Nat) (n0 : Nat) (n2 : Nat) (q0f : Int → Int) (x1 : Int) (x3 : Int) (k3_ : (Int → Int) → Option ((Int → Int))) (j3_ : (Int → Int) → Int → Option ((Int → Int))) (q2f_m2 : Int → Int) (v3 : Int) : Option ((Int → Int)) :=
  jck v3 205 (if 205 ≤ v3 then k3_ q2f_m2 else jix (n0 : Int) (x1 + v3) (jix (n2 : Int) (x3 + v3) (j3_ (uI q2f_m2 (x3 + v3) (q0f (x1 + v3))) (v3 + 1))))
def f_X5_moves_L3 (fu : Nat) (n0 : Nat) (n2 : Nat) (q0f : Int → Int) (x1 : Int) (x3 : Int) (k3_ : (Int → Int) → Option ((Int → Int))) : Nat → (Int → Int) → Int → Option ((Int → Int))
  | 0 => fun _ _ => none
  | n + 1 => f_X5_moves_L3_b fu n0 n2 q0f x1 x3 k3_ (f_X5_moves_L3 fu n0 n2 q0f x1 x3 k3_ n)
def f_X5_moves (fu : Nat) (n0 : Nat) (n2 : Nat) (q0f : Int → Int) (q2f : Int → Int) (x1 : Int) (x3 : Int) : Option ((Int → Int)) :=
  f_X5_moves_L3 fu n0 n2 q0f x1 x3 (f_X5_moves_X29 fu) fu q2f 0
def f_X5_within (fu : Nat) (x0 : Int) (x1 : Int) (x2 : Int) : Option (Int) :=
  jck x0 x1 (if x0 < x1 then jbo 0 (some 0) else jck x0 x2 (if x2 < x0 then jbo 0 (some 0) else jbo 1 (some 1)))
def f_X5_record_J50 (fu : Nat) (stf : Int → Int) (rc_m1 : Int) (hsf_m2 : Int → Int) : Option (Int × (Int → Int)) :=
  jb (f_X5_moves fu 205 1230 stf hsf_m2 0 (rc_m1 * 205)) (fun q2f_m3 => some ((rc_m1 + 1), q2f_m3))
def f_X5_record_X40 (fu : Nat) (stf : Int → Int) (rc_m4 : Int) (hsf_m5 : Int → Int) : Option (Int × (Int → Int)) :=
  f_X5_record_J50 fu stf (rc_m4 - 1) hsf_m5
def f_X5_record_L11_b (fu : Nat) (k11_ : Int → (Int → Int) → Option (Int × (Int → Int))) (j11_ : Int → (Int → Int) → Int → Option (Int × (Int → Int))) (rc_m6 : Int) (hsf_m7 : Int → Int) (v8 : Int) : Option (Int × (Int → Int)) :=
  jck v8 1025 (if 1025 ≤ v8 then k11_ rc_m6 hsf_m7 else jix 1230 (v8 + 205) (jix 1230 v8 (j11_ rc_m6 (uI hsf_m7 v8 (hsf_m7 (v8 + 205))) (v8 + 1))))
def f_X5_record_L11 (fu : Nat) (k11_ : Int → (Int → Int) → Option (Int × (Int → Int))) : Nat → Int → (Int → Int) → Int → Option (Int × (Int → Int))
  | 0 => fun _ _ _ => none
  | n + 1 => f_X5_record_L11_b fu k11_ (f_X5_record_L11 fu k11_ n)
def f_X5_record (fu : Nat) (rc : Int) (stf : Int → Int) (hsf : Int → Int) : Option (Int × (Int → Int)) :=
  jck rc 6 (if rc ≠ 6 then f_X5_record_J50 fu stf rc hsf else f_X5_record_L11 fu (f_X5_record_X40 fu stf) fu rc hsf 0)
def f_X5_isTrack (fu : Nat) (x0 : Int) : Option (Int) :=
  jb (f_X5_within fu x0 0 11) (fun v1 => jbo v1 (some v1))
def f_X5_isStep (fu : Nat) (x0 : Int) : Option (Int) :=
  jb (f_X5_within fu x0 0 99) (fun v1 => jbo v1 (some v1))
def f_X5_isNote (fu : Nat) (stf : Int → Int) (x1 : Int) : Option (Int) :=
  jix 205 4 (jb (f_X5_within fu x1 0 ((stf 4) - 1)) (fun v1 => jbo v1 (some v1)))
def f_X5_part (fu : Nat) (stf : Int → Int) (x1 : Int) (x2 : Int) : Option (Int) :=
  jix 205 ((5 + (5 * x1)) + x2) (some (stf ((5 + (5 * x1)) + x2)))
def f_X5_setPart (fu : Nat) (stf : Int → Int) (x1 : Int) (x2 : Int) (x3 : Int) : Option ((Int → Int)) :=
  jix 205 ((5 + (5 * x1)) + x2) (some (uI stf ((5 + (5 * x1)) + x2) x3))
def f_X5_move_X25 (fu : Nat)  (stf_m1 : Int → Int) : Option ((Int → Int)) :=
  some stf_m1
def f_X5_move_L2_b (fu : Nat) (x1 : Int) (x2 : Int) (k2_ : (Int → Int) → Option ((Int → Int))) (j2_ : (Int → Int) → Int → Option ((Int → Int))) (stf_m2 : Int → Int) (v3 : Int) : Option ((Int → Int)) :=
  jck v3 5 (if 5 ≤ v3 then k2_ stf_m2 else jb (f_X5_part fu stf_m2 x1 v3) (fun v4 => jb (f_X5_setPart fu stf_m2 x2 v3 v4) (fun stf_m5 => j2_ stf_m5 (v3 + 1))))
def f_X5_move_L2 (fu : Nat) (x1 : Int) (x2 : Int) (k2_ : (Int → Int) → Option ((Int → Int))) : Nat → (Int → Int) → Int → Option ((Int → Int))
  | 0 => fun _ _ => none
  | n + 1 => f_X5_move_L2_b fu x1 x2 k2_ (f_X5_move_L2 fu x1 x2 k2_ n)
def f_X5_move (fu : Nat) (stf : Int → Int) (x1 : Int) (x2 : Int) : Option ((Int → Int)) :=
  f_X5_move_L2 fu x1 x2 (f_X5_move_X25 fu) fu stf 0
def f_X5_isTaken_X68 (fu : Nat)  (v1 : Int) : Option (Int) :=
  jbo v1 (some v1)
def f_X5_isTaken_L6_b (fu : Nat) (stf : Int → Int) (x1 : Int) (x2 : Int) (x3 : Int) (k6_ : Int → Option (Int)) (j6_ : Int → Int → Option (Int)) (v2 : Int) (v3 : Int) : Option (Int) :=
  jix 205 4 (jck v3 (stf 4) (if (stf 4) ≤ v3 then k6_ v2 else jck v2 0 (if v2 ≠ 0 then j6_ 1 (v3 + 1) else jb (f_X5_part fu stf v3 0) (fun v4 => jck v4 x1 (if v4 ≠ x1 then j6_ 0 (v3 + 1) else jb (f_X5_part fu stf v3 1) (fun v5 => jck v5 x3 (if x3 < v5 then j6_ 0 (v3 + 1) else jb (f_X5_part fu stf v3 2) (fun v6 => jck v6 x2 (if v6 < x2 then j6_ 0 (v3 + 1) else j6_ 1 (v3 + 1))))))))))
def f_X5_isTaken_L6 (fu : Nat) (stf : Int → Int) (x1 : Int) (x2 : Int) (x3 : Int) (k6_ : Int → Option (Int)) : Nat → Int → Int → Option (Int)
  | 0 => fun _ _ => none
  | n + 1 => f_X5_isTaken_L6_b fu stf x1 x2 x3 k6_ (f_X5_isTaken_L6 fu stf x1 x2 x3 k6_ n)
def f_X5_isTaken (fu : Nat) (stf : Int → Int) (x1 : Int) (x2 : Int) (x3 : Int) : Option (Int) :=
  f_X5_isTaken_L6 fu stf x1 x2 x3 (f_X5_isTaken_X68 fu) fu 0 0
def f_X5_orderOf (fu : Nat) (stf : Int → Int) (x1 : Int) : Option (Int) :=
  jb (f_X5_part fu stf x1 1) (fun v1 => jb (f_X5_part fu stf x1 0) (fun v2 => some ((12 * v1) + v2)))
def f_X5_putIn_X46 (fu : Nat) (x1 : Int) (x2 : Int) (x3 : Int) (x4 : Int) (x5 : Int) (stf_m1 : Int → Int) (v2 : Int) : Option (Int × (Int → Int)) :=
  jb (f_X5_setPart fu stf_m1 v2 0 x1) (fun stf_m3 => jb (f_X5_setPart fu stf_m3 v2 1 x2) (fun stf_m4 => jb (f_X5_setPart fu stf_m4 v2 2 x3) (fun stf_m5 => jb (f_X5_setPart fu stf_m5 v2 3 x4) (fun stf_m6 => jb (f_X5_setPart fu stf_m6 v2 4 x5) (fun stf_m7 => jix 205 4 (jix 205 4 (some (v2, (uI stf_m7 4 ((stf_m7 4) + 1))))))))))
def f_X5_putIn_L8_b (fu : Nat) (x1 : Int) (x2 : Int) (k8_ : (Int → Int) → Int → Option (Int × (Int → Int))) (j8_ : (Int → Int) → Int → Option (Int × (Int → Int))) (stf_m8 : Int → Int) (v9 : Int) : Option (Int × (Int → Int)) :=
  jck v9 0 (if v9 ≤ 0 then k8_ stf_m8 v9 else jb (f_X5_orderOf fu stf_m8 (v9 - 1)) (fun v10 => jck v10 ((12 * x2) + x1) (if v10 ≤ ((12 * x2) + x1) then k8_ stf_m8 v9 else jb (f_X5_move fu stf_m8 (v9 - 1) v9) (fun stf_m11 => j8_ stf_m11 (v9 + (-1))))))
def f_X5_putIn_L8 (fu : Nat) (x1 : Int) (x2 : Int) (k8_ : (Int → Int) → Int → Option (Int × (Int → Int))) : Nat → (Int → Int) → Int → Option (Int × (Int → Int))
  | 0 => fun _ _ => none
  | n + 1 => f_X5_putIn_L8_b fu x1 x2 k8_ (f_X5_putIn_L8 fu x1 x2 k8_ n)
def f_X5_putIn (fu : Nat) (stf : Int → Int) (x1 : Int) (x2 : Int) (x3 : Int) (x4 : Int) (x5 : Int) : Option (Int × (Int → Int)) :=
  jix 205 4 (f_X5_putIn_L8 fu x1 x2 (f_X5_putIn_X46 fu x1 x2 x3 x4 x5) fu stf (stf 4))
def f_X5_takeOut_X28 (fu : Nat)  (stf_m1 : Int → Int) : Option ((Int → Int)) :=
  jix 205 4 (jix 205 4 (some (uI stf_m1 4 ((stf_m1 4) - 1))))
def f_X5_takeOut_L2_b (fu : Nat) (k2_ : (Int → Int) → Option ((Int → Int))) (j2_ : (Int → Int) → Int → Option ((Int → Int))) (stf_m2 : Int → Int) (v3 : Int) : Option ((Int → Int)) :=
  jix 205 4 (jck v3 ((stf_m2 4) - 1) (if ((stf_m2 4) - 1) ≤ v3 then k2_ stf_m2 else jb (f_X5_move fu stf_m2 (v3 + 1) v3) (fun stf_m4 => j2_ stf_m4 (v3 + 1))))
def f_X5_takeOut_L2 (fu : Nat) (k2_ : (Int → Int) → Option ((Int → Int))) : Nat → (Int → Int) → Int → Option ((Int → Int))
  | 0 => fun _ _ => none
  | n + 1 => f_X5_takeOut_L2_b fu k2_ (f_X5_takeOut_L2 fu k2_ n)
def f_X5_takeOut (fu : Nat) (stf : Int → Int) (x1 : Int) : Option ((Int → Int)) :=
  f_X5_takeOut_L2 fu (f_X5_takeOut_X28 fu) fu stf x1
def f_X5_putInOrder_X87 (fu : Nat)  (mv_m1 : Int → Int) (stf_m2 : Int → Int) : Option ((Int → Int) × (Int → Int)) :=
  some (mv_m1, stf_m2)
def f_X5_putInOrder_X46 (fu : Nat) (v5 : Int) (v6 : Int) (j16_ : (Int → Int) → (Int → Int) → Int → Int → Option ((Int → Int) × (Int → Int))) (mv_m7 : Int → Int) (stf_m8 : Int → Int) : Option ((Int → Int) × (Int → Int)) :=
  jix 5 0 (jix 5 1 (jix 5 2 (jix 5 3 (jix 5 4 (jb2 (f_X5_putIn fu stf_m8 (mv_m7 0) (mv_m7 1) (mv_m7 2) (mv_m7 3) (mv_m7 4)) (fun v9 stf_m10 => j16_ mv_m7 stf_m10 v5 (v6 + 1)))))))
def f_X5_putInOrder_L23_b (fu : Nat) (v6 : Int) (k23_ : (Int → Int) → (Int → Int) → Option ((Int → Int) × (Int → Int))) (j23_ : (Int → Int) → (Int → Int) → Int → Option ((Int → Int) × (Int → Int))) (mv_m11 : Int → Int) (stf_m12 : Int → Int) (v13 : Int) : Option ((Int → Int) × (Int → Int)) :=
  jck v13 5 (if 5 ≤ v13 then k23_ mv_m11 stf_m12 else jb (f_X5_part fu stf_m12 v6 v13) (fun v14 => jix 5 v13 (j23_ (uI mv_m11 v13 v14) stf_m12 (v13 + 1))))
def f_X5_putInOrder_L23 (fu : Nat) (v6 : Int) (k23_ : (Int → Int) → (Int → Int) → Option ((Int → Int) × (Int → Int))) : Nat → (Int → Int) → (Int → Int) → Int → Option ((Int → Int) × (Int → Int))
  | 0 => fun _ _ _ => none
  | n + 1 => f_X5_putInOrder_L23_b fu v6 k23_ (f_X5_putInOrder_L23 fu v6 k23_ n)
def f_X5_putInOrder_L16_b (fu : Nat) (k16_ : (Int → Int) → (Int → Int) → Option ((Int → Int) × (Int → Int))) (j16_ : (Int → Int) → (Int → Int) → Int → Int → Option ((Int → Int) × (Int → Int))) (mv_m3 : Int → Int) (stf_m4 : Int → Int) (v5 : Int) (v6 : Int) : Option ((Int → Int) × (Int → Int)) :=
  jck v6 v5 (if v5 ≤ v6 then k16_ mv_m3 stf_m4 else f_X5_putInOrder_L23 fu v6 (f_X5_putInOrder_X46 fu v5 v6 j16_) fu mv_m3 stf_m4 0)
def f_X5_putInOrder_L16 (fu : Nat) (k16_ : (Int → Int) → (Int → Int) → Option ((Int → Int) × (Int → Int))) : Nat → (Int → Int) → (Int → Int) → Int → Int → Option ((Int → Int) × (Int → Int))
  | 0 => fun _ _ _ _ => none
  | n + 1 => f_X5_putInOrder_L16_b fu k16_ (f_X5_putInOrder_L16 fu k16_ n)
def f_X5_putInOrder (fu : Nat) (mv : Int → Int) (stf : Int → Int) : Option ((Int → Int) × (Int → Int)) :=
  jix 205 4 (jix 205 4 (f_X5_putInOrder_L16 fu (f_X5_putInOrder_X87 fu) fu mv (uI stf 4 0) (stf 4) 0))
def f_X5_isHole (fu : Nat) (stf : Int → Int) (x1 : Int) (x2 : Int) : Option (Int) :=
  jb (f_X5_part fu stf x1 1) (fun v1 => jck x2 v1 (if x2 = v1 then jbo 1 (some 1) else jb (f_X5_part fu stf x1 2) (fun v2 => jck x2 v2 (if x2 = v2 then jbo 1 (some 1) else jb (f_X5_part fu stf x1 3) (fun v3 => jix 205 0 (jix 205 1 (jre ((x2 - v1) + v3) ((stf 0) + (stf 1)) (jix 205 0 (jck (((x2 - v1) + v3) % ((stf 0) + (stf 1))) (stf 0) (if (stf 0) ≤ (((x2 - v1) + v3) % ((stf 0) + (stf 1))) then jbo 0 (some 0) else jbo 1 (some 1)))))))))))
def f_X5_findHoles_X140 (fu : Nat)  (ho_m2 : Int → Int) : Option ((Int → Int)) :=
  some ho_m2
def f_X5_findHoles_J132 (fu : Nat) (v4 : Int) (ho_m7 : Int → Int) (v8 : Int) (j23_ : (Int → Int) → Int → Option ((Int → Int))) (v10 : Int) : Option ((Int → Int)) :=
  jix 100 v8 (j23_ (uI ho_m7 v8 (jor (ho_m7 v8) v10)) (v4 + 1))
def f_X5_findHoles_X88 (fu : Nat) (stf : Int → Int) (v4 : Int) (v5 : Int) (j23_ : (Int → Int) → Int → Option ((Int → Int))) (ho_m7 : Int → Int) : Option ((Int → Int)) :=
  jb (f_X5_part fu stf v4 1) (fun v8 => jix 100 v8 (jb (f_X5_part fu stf v4 4) (fun v9 => jck v9 0 (if v9 ≠ 0 then jck v5 11 (if v5 ≠ 11 then f_X5_findHoles_J132 fu v4 ho_m7 v8 j23_ (jshl 1 (v5 + 1)) else f_X5_findHoles_J132 fu v4 ho_m7 v8 j23_ (jshl 1 (v5 - 1))) else f_X5_findHoles_J132 fu v4 ho_m7 v8 j23_ 0))))
def f_X5_findHoles_J80 (fu : Nat) (ho_m11 : Int → Int) (v12 : Int) (j47_ : (Int → Int) → Int → Option ((Int → Int))) (v15 : Int) : Option ((Int → Int)) :=
  jix 100 v12 (j47_ (uI ho_m11 v12 (jor (ho_m11 v12) v15)) (v12 + 1))
def f_X5_findHoles_L47_b (fu : Nat) (stf : Int → Int) (v4 : Int) (v5 : Int) (k47_ : (Int → Int) → Option ((Int → Int))) (j47_ : (Int → Int) → Int → Option ((Int → Int))) (ho_m11 : Int → Int) (v12 : Int) : Option ((Int → Int)) :=
  jb (f_X5_part fu stf v4 2) (fun v13 => jck v12 v13 (if v13 < v12 then k47_ ho_m11 else jix 100 v12 (jb (f_X5_isHole fu stf v4 v12) (fun v14 => jck v14 0 (if v14 = 0 then f_X5_findHoles_J80 fu ho_m11 v12 j47_ 0 else f_X5_findHoles_J80 fu ho_m11 v12 j47_ (jshl 1 v5))))))
def f_X5_findHoles_L47 (fu : Nat) (stf : Int → Int) (v4 : Int) (v5 : Int) (k47_ : (Int → Int) → Option ((Int → Int))) : Nat → (Int → Int) → Int → Option ((Int → Int))
  | 0 => fun _ _ => none
  | n + 1 => f_X5_findHoles_L47_b fu stf v4 v5 k47_ (f_X5_findHoles_L47 fu stf v4 v5 k47_ n)
def f_X5_findHoles_L23_b (fu : Nat) (stf : Int → Int) (k23_ : (Int → Int) → Option ((Int → Int))) (j23_ : (Int → Int) → Int → Option ((Int → Int))) (ho_m3 : Int → Int) (v4 : Int) : Option ((Int → Int)) :=
  jix 205 4 (jck v4 (stf 4) (if (stf 4) ≤ v4 then k23_ ho_m3 else jb (f_X5_part fu stf v4 0) (fun v5 => jb (f_X5_part fu stf v4 1) (fun v6 => f_X5_findHoles_L47 fu stf v4 v5 (f_X5_findHoles_X88 fu stf v4 v5 j23_) fu ho_m3 v6))))
def f_X5_findHoles_L23 (fu : Nat) (stf : Int → Int) (k23_ : (Int → Int) → Option ((Int → Int))) : Nat → (Int → Int) → Int → Option ((Int → Int))
  | 0 => fun _ _ => none
  | n + 1 => f_X5_findHoles_L23_b fu stf k23_ (f_X5_findHoles_L23 fu stf k23_ n)
def f_X5_findHoles_X21 (fu : Nat) (stf : Int → Int) (ho_m1 : Int → Int) : Option ((Int → Int)) :=
  f_X5_findHoles_L23 fu stf (f_X5_findHoles_X140 fu) fu ho_m1 0
def f_X5_findHoles_L2_b (fu : Nat) (k2_ : (Int → Int) → Option ((Int → Int))) (j2_ : (Int → Int) → Int → Option ((Int → Int))) (ho_m16 : Int → Int) (v17 : Int) : Option ((Int → Int)) :=
  jck v17 100 (if 100 ≤ v17 then k2_ ho_m16 else jix 100 v17 (j2_ (uI ho_m16 v17 0) (v17 + 1)))
def f_X5_findHoles_L2 (fu : Nat) (k2_ : (Int → Int) → Option ((Int → Int))) : Nat → (Int → Int) → Int → Option ((Int → Int))
  | 0 => fun _ _ => none
  | n + 1 => f_X5_findHoles_L2_b fu k2_ (f_X5_findHoles_L2 fu k2_ n)
def f_X5_findHoles (fu : Nat) (ho : Int → Int) (stf : Int → Int) : Option ((Int → Int)) :=
  f_X5_findHoles_L2 fu (f_X5_findHoles_X21 fu stf) fu ho 0
def f_X5_findHeard_X65 (fu : Nat)  (ho_m2 : Int → Int) (eh_m3 : Int → Int) : Option ((Int → Int) × (Int → Int)) :=
  some (ho_m2, eh_m3)
def f_X5_findHeard_X59 (fu : Nat) (v6 : Int) (j6_ : (Int → Int) → (Int → Int) → Int → Option ((Int → Int) × (Int → Int))) (ho_m7 : Int → Int) (eh_m8 : Int → Int) : Option ((Int → Int) × (Int → Int)) :=
  j6_ ho_m7 eh_m8 (v6 + 1)
def f_X5_findHeard_L21_b (fu : Nat) (stf : Int → Int) (v6 : Int) (k21_ : (Int → Int) → (Int → Int) → Option ((Int → Int) × (Int → Int))) (j21_ : (Int → Int) → (Int → Int) → Int → Option ((Int → Int) × (Int → Int))) (ho_m9 : Int → Int) (eh_m10 : Int → Int) (v11 : Int) : Option ((Int → Int) × (Int → Int)) :=
  jix 205 2 (jck v11 (stf 2) (if (stf 2) < v11 then k21_ ho_m9 eh_m10 else jck v11 v6 (if v6 < v11 then k21_ ho_m9 eh_m10 else jix 100 v6 (jix 100 (v6 - v11) (jix 100 v6 (j21_ ho_m9 (uI eh_m10 v6 (jor (eh_m10 v6) (ho_m9 (v6 - v11)))) (v11 + 1)))))))
def f_X5_findHeard_L21 (fu : Nat) (stf : Int → Int) (v6 : Int) (k21_ : (Int → Int) → (Int → Int) → Option ((Int → Int) × (Int → Int))) : Nat → (Int → Int) → (Int → Int) → Int → Option ((Int → Int) × (Int → Int))
  | 0 => fun _ _ _ => none
  | n + 1 => f_X5_findHeard_L21_b fu stf v6 k21_ (f_X5_findHeard_L21 fu stf v6 k21_ n)
def f_X5_findHeard_L6_b (fu : Nat) (stf : Int → Int) (k6_ : (Int → Int) → (Int → Int) → Option ((Int → Int) × (Int → Int))) (j6_ : (Int → Int) → (Int → Int) → Int → Option ((Int → Int) × (Int → Int))) (ho_m4 : Int → Int) (eh_m5 : Int → Int) (v6 : Int) : Option ((Int → Int) × (Int → Int)) :=
  jck v6 100 (if 100 ≤ v6 then k6_ ho_m4 eh_m5 else jix 100 v6 (f_X5_findHeard_L21 fu stf v6 (f_X5_findHeard_X59 fu v6 j6_) fu ho_m4 (uI eh_m5 v6 0) 0))
def f_X5_findHeard_L6 (fu : Nat) (stf : Int → Int) (k6_ : (Int → Int) → (Int → Int) → Option ((Int → Int) × (Int → Int))) : Nat → (Int → Int) → (Int → Int) → Int → Option ((Int → Int) × (Int → Int))
  | 0 => fun _ _ _ => none
  | n + 1 => f_X5_findHeard_L6_b fu stf k6_ (f_X5_findHeard_L6 fu stf k6_ n)
def f_X5_findHeard (fu : Nat) (ho : Int → Int) (eh : Int → Int) (stf : Int → Int) : Option ((Int → Int) × (Int → Int)) :=
  jb (f_X5_findHoles fu ho stf) (fun ho_m1 => f_X5_findHeard_L6 fu stf (f_X5_findHeard_X65 fu) fu ho_m1 eh 0)
def f_X5_sideBySide_X46 (fu : Nat)  (v1 : Int) : Option (Int) :=
  some v1
def f_X5_sideBySide_J28 (fu : Nat) (v2 : Int) (v4 : Int) (j6_ : Int → Int → Int → Option (Int)) (v5 : Int) : Option (Int) :=
  jck v5 v2 (if v5 ≤ v2 then j6_ v2 v5 (v4 + 1) else j6_ v5 v5 (v4 + 1))
def f_X5_sideBySide_L6_b (fu : Nat) (x0 : Int) (k6_ : Int → Option (Int)) (j6_ : Int → Int → Int → Option (Int)) (v2 : Int) (v3 : Int) (v4 : Int) : Option (Int) :=
  jck v4 12 (if 12 ≤ v4 then k6_ v2 else jck (jand (jshr x0 v4) 1) 1 (if (jand (jshr x0 v4) 1) ≠ 1 then f_X5_sideBySide_J28 fu v2 v4 j6_ 0 else f_X5_sideBySide_J28 fu v2 v4 j6_ (v3 + 1)))
def f_X5_sideBySide_L6 (fu : Nat) (x0 : Int) (k6_ : Int → Option (Int)) : Nat → Int → Int → Int → Option (Int)
  | 0 => fun _ _ _ => none
  | n + 1 => f_X5_sideBySide_L6_b fu x0 k6_ (f_X5_sideBySide_L6 fu x0 k6_ n)
def f_X5_sideBySide (fu : Nat) (x0 : Int) : Option (Int) :=
  f_X5_sideBySide_L6 fu x0 (f_X5_sideBySide_X46 fu) fu 0 0 0
def f_X5_isWeak (fu : Nat) (ho : Int → Int) (stf : Int → Int) (x1 : Int) : Option (Int) :=
  jix 100 x1 (jb (f_X5_sideBySide fu (ho x1)) (fun v1 => jix 205 3 (jck v1 (stf 3) (if v1 < (stf 3) then jbo 0 (some 0) else jbo 1 (some 1)))))
def f_X5_weakMany_X36 (fu : Nat) (ho_m1 : Int → Int) (v2 : Int) : Option (Int × (Int → Int)) :=
  some (v2, ho_m1)
def f_X5_weakMany_L8_b (fu : Nat) (stf : Int → Int) (ho_m1 : Int → Int) (k8_ : Int → Option (Int × (Int → Int))) (j8_ : Int → Int → Option (Int × (Int → Int))) (v3 : Int) (v4 : Int) : Option (Int × (Int → Int)) :=
  jck v4 100 (if 100 ≤ v4 then k8_ v3 else jb (f_X5_isWeak fu ho_m1 stf v4) (fun v5 => jck v5 0 (if v5 = 0 then j8_ (v3 + 0) (v4 + 1) else j8_ (v3 + 1) (v4 + 1))))
def f_X5_weakMany_L8 (fu : Nat) (stf : Int → Int) (ho_m1 : Int → Int) (k8_ : Int → Option (Int × (Int → Int))) : Nat → Int → Int → Option (Int × (Int → Int))
  | 0 => fun _ _ => none
  | n + 1 => f_X5_weakMany_L8_b fu stf ho_m1 k8_ (f_X5_weakMany_L8 fu stf ho_m1 k8_ n)
def f_X5_weakMany (fu : Nat) (ho : Int → Int) (stf : Int → Int) : Option (Int × (Int → Int)) :=
  jb (f_X5_findHoles fu ho stf) (fun ho_m1 => f_X5_weakMany_L8 fu stf ho_m1 (f_X5_weakMany_X36 fu ho_m1) fu 0 0)
def f_X5_firstWeak_X34 (fu : Nat) (ho_m1 : Int → Int) (v2 : Int) : Option (Int × (Int → Int)) :=
  some (v2, ho_m1)
def f_X5_firstWeak_L10_b (fu : Nat) (stf : Int → Int) (ho_m1 : Int → Int) (k10_ : Int → Option (Int × (Int → Int))) (j10_ : Int → Int → Option (Int × (Int → Int))) (v3 : Int) (v4 : Int) : Option (Int × (Int → Int)) :=
  jck v4 0 (if v4 < 0 then k10_ v3 else jb (f_X5_isWeak fu ho_m1 stf v4) (fun v5 => jck v5 0 (if v5 = 0 then j10_ v3 (v4 + (-1)) else j10_ v4 (v4 + (-1)))))
def f_X5_firstWeak_L10 (fu : Nat) (stf : Int → Int) (ho_m1 : Int → Int) (k10_ : Int → Option (Int × (Int → Int))) : Nat → Int → Int → Option (Int × (Int → Int))
  | 0 => fun _ _ => none
  | n + 1 => f_X5_firstWeak_L10_b fu stf ho_m1 k10_ (f_X5_firstWeak_L10 fu stf ho_m1 k10_ n)
def f_X5_firstWeak (fu : Nat) (ho : Int → Int) (stf : Int → Int) : Option (Int × (Int → Int)) :=
  jb (f_X5_findHoles fu ho stf) (fun ho_m1 => f_X5_firstWeak_L10 fu stf ho_m1 (f_X5_firstWeak_X34 fu ho_m1) fu (-6) 99)
def f_X5_bits_X24 (fu : Nat)  (v1 : Int) : Option (Int) :=
  some v1
def f_X5_bits_L4_b (fu : Nat) (x0 : Int) (k4_ : Int → Option (Int)) (j4_ : Int → Int → Option (Int)) (v2 : Int) (v3 : Int) : Option (Int) :=
  jck v3 12 (if 12 ≤ v3 then k4_ v2 else j4_ (v2 + (jand (jshr x0 v3) 1)) (v3 + 1))
def f_X5_bits_L4 (fu : Nat) (x0 : Int) (k4_ : Int → Option (Int)) : Nat → Int → Int → Option (Int)
  | 0 => fun _ _ => none
  | n + 1 => f_X5_bits_L4_b fu x0 k4_ (f_X5_bits_L4 fu x0 k4_ n)
def f_X5_bits (fu : Nat) (x0 : Int) : Option (Int) :=
  f_X5_bits_L4 fu x0 (f_X5_bits_X24 fu) fu 0 0
def f_X5_allHoles_X32 (fu : Nat) (ho_m1 : Int → Int) (v2 : Int) : Option (Int × (Int → Int)) :=
  some (v2, ho_m1)
def f_X5_allHoles_L8_b (fu : Nat) (ho_m1 : Int → Int) (k8_ : Int → Option (Int × (Int → Int))) (j8_ : Int → Int → Option (Int × (Int → Int))) (v3 : Int) (v4 : Int) : Option (Int × (Int → Int)) :=
  jck v4 100 (if 100 ≤ v4 then k8_ v3 else jix 100 v4 (jb (f_X5_bits fu (ho_m1 v4)) (fun v5 => j8_ (v3 + v5) (v4 + 1))))
def f_X5_allHoles_L8 (fu : Nat) (ho_m1 : Int → Int) (k8_ : Int → Option (Int × (Int → Int))) : Nat → Int → Int → Option (Int × (Int → Int))
  | 0 => fun _ _ => none
  | n + 1 => f_X5_allHoles_L8_b fu ho_m1 k8_ (f_X5_allHoles_L8 fu ho_m1 k8_ n)
def f_X5_allHoles (fu : Nat) (ho : Int → Int) (stf : Int → Int) : Option (Int × (Int → Int)) :=
  jb (f_X5_findHoles fu ho stf) (fun ho_m1 => f_X5_allHoles_L8 fu ho_m1 (f_X5_allHoles_X32 fu ho_m1) fu 0 0)
def f_X5_isHeard (fu : Nat) (eh : Int → Int) (x1 : Int) (x2 : Int) : Option (Int) :=
  jix 100 x2 (jck (jand (jshr (eh x2) x1) 1) 1 (if (jand (jshr (eh x2) x1) 1) ≠ 1 then jbo 0 (some 0) else jbo 1 (some 1)))
def f_X5_begins (fu : Nat) (eh : Int → Int) (x1 : Int) (x2 : Int) : Option (Int) :=
  jb (f_X5_isHeard fu eh x1 x2) (fun v1 => jck v1 0 (if v1 = 0 then jbo 0 (some 0) else jck x2 0 (if x2 = 0 then jbo 1 (some 1) else jb (f_X5_isHeard fu eh x1 (x2 - 1)) (fun v2 => jck v2 0 (if v2 ≠ 0 then jbo 0 (some 0) else jbo 1 (some 1))))))
def f_X5_beginOf_X63 (fu : Nat)  (v1 : Int) : Option (Int) :=
  some v1
def f_X5_beginOf_J37 (fu : Nat) (eh : Int → Int) (x1 : Int) (v2 : Int) (v4 : Int) (j9_ : Int → Int → Int → Option (Int)) (v6 : Int) : Option (Int) :=
  jb (f_X5_begins fu eh x1 v4) (fun v7 => jck v7 0 (if v7 = 0 then j9_ (v2 - 0) v6 (v4 + 1) else j9_ (v2 - 1) v6 (v4 + 1)))
def f_X5_beginOf_J35 (fu : Nat) (eh : Int → Int) (x1 : Int) (v2 : Int) (v3 : Int) (v4 : Int) (j9_ : Int → Int → Int → Option (Int))  : Option (Int) :=
  f_X5_beginOf_J37 fu eh x1 v2 v4 j9_ v3
def f_X5_beginOf_L9_b (fu : Nat) (eh : Int → Int) (x1 : Int) (k9_ : Int → Option (Int)) (j9_ : Int → Int → Int → Option (Int)) (v2 : Int) (v3 : Int) (v4 : Int) : Option (Int) :=
  jck v4 100 (if 100 ≤ v4 then k9_ v3 else jb (f_X5_begins fu eh x1 v4) (fun v5 => jck v5 0 (if v5 = 0 then f_X5_beginOf_J35 fu eh x1 v2 v3 v4 j9_ else jck v2 0 (if v2 ≠ 0 then f_X5_beginOf_J35 fu eh x1 v2 v3 v4 j9_ else f_X5_beginOf_J37 fu eh x1 v2 v4 j9_ v4))))
def f_X5_beginOf_L9 (fu : Nat) (eh : Int → Int) (x1 : Int) (k9_ : Int → Option (Int)) : Nat → Int → Int → Int → Option (Int)
  | 0 => fun _ _ _ => none
  | n + 1 => f_X5_beginOf_L9_b fu eh x1 k9_ (f_X5_beginOf_L9 fu eh x1 k9_ n)
def f_X5_beginOf (fu : Nat) (eh : Int → Int) (x1 : Int) (x2 : Int) : Option (Int) :=
  f_X5_beginOf_L9 fu eh x1 (f_X5_beginOf_X63 fu) fu x2 (-6) 0
def f_X5_endOf_X27 (fu : Nat)  (v1 : Int) : Option (Int) :=
  some v1
def f_X5_endOf_L2_b (fu : Nat) (eh : Int → Int) (x1 : Int) (k2_ : Int → Option (Int)) (j2_ : Int → Option (Int)) (v2 : Int) : Option (Int) :=
  jck (v2 + 1) 100 (if 100 ≤ (v2 + 1) then k2_ v2 else jb (f_X5_isHeard fu eh x1 (v2 + 1)) (fun v3 => jck v3 0 (if v3 = 0 then k2_ v2 else j2_ (v2 + 1))))
def f_X5_endOf_L2 (fu : Nat) (eh : Int → Int) (x1 : Int) (k2_ : Int → Option (Int)) : Nat → Int → Option (Int)
  | 0 => fun _ => none
  | n + 1 => f_X5_endOf_L2_b fu eh x1 k2_ (f_X5_endOf_L2 fu eh x1 k2_ n)
def f_X5_endOf (fu : Nat) (eh : Int → Int) (x1 : Int) (x2 : Int) : Option (Int) :=
  f_X5_endOf_L2 fu eh x1 (f_X5_endOf_X27 fu) fu x2
def f_X5_soundsMany_X51 (fu : Nat) (ho_m1 : Int → Int) (eh_m2 : Int → Int) (v3 : Int) : Option (Int × (Int → Int) × (Int → Int)) :=
  some (v3, ho_m1, eh_m2)
def f_X5_soundsMany_X45 (fu : Nat) (v5 : Int) (j8_ : Int → Int → Option (Int × (Int → Int) × (Int → Int))) (v6 : Int) : Option (Int × (Int → Int) × (Int → Int)) :=
  j8_ v6 (v5 + 1)
def f_X5_soundsMany_L16_b (fu : Nat) (eh_m2 : Int → Int) (v5 : Int) (k16_ : Int → Option (Int × (Int → Int) × (Int → Int))) (j16_ : Int → Int → Option (Int × (Int → Int) × (Int → Int))) (v7 : Int) (v8 : Int) : Option (Int × (Int → Int) × (Int → Int)) :=
  jck v8 100 (if 100 ≤ v8 then k16_ v7 else jb (f_X5_begins fu eh_m2 v5 v8) (fun v9 => jck v9 0 (if v9 = 0 then j16_ (v7 + 0) (v8 + 1) else j16_ (v7 + 1) (v8 + 1))))
def f_X5_soundsMany_L16 (fu : Nat) (eh_m2 : Int → Int) (v5 : Int) (k16_ : Int → Option (Int × (Int → Int) × (Int → Int))) : Nat → Int → Int → Option (Int × (Int → Int) × (Int → Int))
  | 0 => fun _ _ => none
  | n + 1 => f_X5_soundsMany_L16_b fu eh_m2 v5 k16_ (f_X5_soundsMany_L16 fu eh_m2 v5 k16_ n)
def f_X5_soundsMany_L8_b (fu : Nat) (eh_m2 : Int → Int) (k8_ : Int → Option (Int × (Int → Int) × (Int → Int))) (j8_ : Int → Int → Option (Int × (Int → Int) × (Int → Int))) (v4 : Int) (v5 : Int) : Option (Int × (Int → Int) × (Int → Int)) :=
  jck v5 12 (if 12 ≤ v5 then k8_ v4 else f_X5_soundsMany_L16 fu eh_m2 v5 (f_X5_soundsMany_X45 fu v5 j8_) fu v4 0)
def f_X5_soundsMany_L8 (fu : Nat) (eh_m2 : Int → Int) (k8_ : Int → Option (Int × (Int → Int) × (Int → Int))) : Nat → Int → Int → Option (Int × (Int → Int) × (Int → Int))
  | 0 => fun _ _ => none
  | n + 1 => f_X5_soundsMany_L8_b fu eh_m2 k8_ (f_X5_soundsMany_L8 fu eh_m2 k8_ n)
def f_X5_soundsMany (fu : Nat) (ho : Int → Int) (eh : Int → Int) (stf : Int → Int) : Option (Int × (Int → Int) × (Int → Int)) :=
  jb2 (f_X5_findHeard fu ho eh stf) (fun ho_m1 eh_m2 => f_X5_soundsMany_L8 fu eh_m2 (f_X5_soundsMany_X51 fu ho_m1 eh_m2) fu 0 0)
def f_X5_isWholeHeard_X49 (fu : Nat)  (v2 : Int) : Option (Int) :=
  jbo v2 (some v2)
def f_X5_isWholeHeard_L9_b (fu : Nat) (eh : Int → Int) (stf : Int → Int) (x1 : Int) (k9_ : Int → Option (Int)) (j9_ : Int → Int → Option (Int)) (v3 : Int) (v4 : Int) : Option (Int) :=
  jb (f_X5_part fu stf x1 2) (fun v5 => jck v4 v5 (if v5 < v4 then k9_ v3 else jck v3 0 (if v3 = 0 then j9_ 0 (v4 + 1) else jb (f_X5_part fu stf x1 0) (fun v6 => jb (f_X5_isHeard fu eh v6 v4) (fun v7 => jck v7 0 (if v7 = 0 then j9_ 0 (v4 + 1) else j9_ 1 (v4 + 1)))))))
def f_X5_isWholeHeard_L9 (fu : Nat) (eh : Int → Int) (stf : Int → Int) (x1 : Int) (k9_ : Int → Option (Int)) : Nat → Int → Int → Option (Int)
  | 0 => fun _ _ => none
  | n + 1 => f_X5_isWholeHeard_L9_b fu eh stf x1 k9_ (f_X5_isWholeHeard_L9 fu eh stf x1 k9_ n)
def f_X5_isWholeHeard (fu : Nat) (eh : Int → Int) (stf : Int → Int) (x1 : Int) : Option (Int) :=
  jb (f_X5_part fu stf x1 1) (fun v1 => f_X5_isWholeHeard_L9 fu eh stf x1 (f_X5_isWholeHeard_X49 fu) fu 1 v1)
def f_X5_withGap_X40 (fu : Nat) (ho_m1 : Int → Int) (eh_m2 : Int → Int) (v3 : Int) : Option (Int × (Int → Int) × (Int → Int)) :=
  some (v3, ho_m1, eh_m2)
def f_X5_withGap_L8_b (fu : Nat) (stf : Int → Int) (eh_m2 : Int → Int) (k8_ : Int → Option (Int × (Int → Int) × (Int → Int))) (j8_ : Int → Int → Option (Int × (Int → Int) × (Int → Int))) (v4 : Int) (v5 : Int) : Option (Int × (Int → Int) × (Int → Int)) :=
  jix 205 4 (jck v5 (stf 4) (if (stf 4) ≤ v5 then k8_ v4 else jb (f_X5_isWholeHeard fu eh_m2 stf v5) (fun v6 => jck v6 0 (if v6 = 0 then j8_ (v4 + 1) (v5 + 1) else j8_ (v4 + 0) (v5 + 1)))))
def f_X5_withGap_L8 (fu : Nat) (stf : Int → Int) (eh_m2 : Int → Int) (k8_ : Int → Option (Int × (Int → Int) × (Int → Int))) : Nat → Int → Int → Option (Int × (Int → Int) × (Int → Int))
  | 0 => fun _ _ => none
  | n + 1 => f_X5_withGap_L8_b fu stf eh_m2 k8_ (f_X5_withGap_L8 fu stf eh_m2 k8_ n)
def f_X5_withGap (fu : Nat) (ho : Int → Int) (eh : Int → Int) (stf : Int → Int) : Option (Int × (Int → Int) × (Int → Int)) :=
  jb2 (f_X5_findHeard fu ho eh stf) (fun ho_m1 eh_m2 => f_X5_withGap_L8 fu stf eh_m2 (f_X5_withGap_X40 fu ho_m1 eh_m2) fu 0 0)
def f_X5_isValue (fu : Nat) (x0 : Int) (x1 : Int) : Option (Int) :=
  jck x0 0 (if x0 = 0 then jb (f_X5_within fu x1 1 9) (fun v1 => jbo v1 (some v1)) else if x0 = 1 then jb (f_X5_within fu x1 1 4) (fun v2 => jbo v2 (some v2)) else if x0 = 2 then jb (f_X5_within fu x1 0 4) (fun v3 => jbo v3 (some v3)) else if x0 = 3 then jb (f_X5_within fu x1 2 12) (fun v4 => jbo v4 (some v4)) else jbo 0 (some 0))
def f_X5_set (fu : Nat) (rc : Int) (stf : Int → Int) (hsf : Int → Int) (x1 : Int) (x2 : Int) : Option (Int × Int × (Int → Int) × (Int → Int)) :=
  jb (f_X5_isValue fu x1 x2) (fun v1 => jck v1 0 (if v1 ≠ 0 then jb2 (f_X5_record fu rc stf hsf) (fun rc_m2 hsf_m3 => jix 205 x1 (jix 205 x1 (some ((stf x1), rc_m2, (uI stf x1 x2), hsf_m3)))) else some ((-2), rc, stf, hsf)))
def f_X5_note (fu : Nat) (rc : Int) (stf : Int → Int) (hsf : Int → Int) (x1 : Int) (x2 : Int) (x3 : Int) : Option (Int × Int × (Int → Int) × (Int → Int)) :=
  jb (f_X5_isTrack fu x1) (fun v1 => jck v1 0 (if v1 ≠ 0 then jb (f_X5_isStep fu x2) (fun v2 => jck v2 0 (if v2 = 0 then some ((-2), rc, stf, hsf) else jb (f_X5_isStep fu x3) (fun v3 => jck v3 0 (if v3 = 0 then some ((-2), rc, stf, hsf) else jck x3 x2 (if x2 ≤ x3 then jix 205 4 (jck (stf 4) 40 (if (stf 4) ≠ 40 then jb (f_X5_isTaken fu stf x1 x2 x3) (fun v4 => jck v4 0 (if v4 = 0 then jb2 (f_X5_record fu rc stf hsf) (fun rc_m5 hsf_m6 => jb2 (f_X5_putIn fu stf x1 x2 x3 0 0) (fun v7 stf_m8 => some (v7, rc_m5, stf_m8, hsf_m6))) else some ((-5), rc, stf, hsf))) else some ((-4), rc, stf, hsf))) else some ((-2), rc, stf, hsf)))))) else some ((-1), rc, stf, hsf)))
def f_X5_drop (fu : Nat) (rc : Int) (stf : Int → Int) (hsf : Int → Int) (x1 : Int) : Option (Int × Int × (Int → Int) × (Int → Int)) :=
  jb (f_X5_isNote fu stf x1) (fun v1 => jck v1 0 (if v1 ≠ 0 then jb2 (f_X5_record fu rc stf hsf) (fun rc_m2 hsf_m3 => jb (f_X5_takeOut fu stf x1) (fun stf_m4 => jix 205 4 (some ((stf_m4 4), rc_m2, stf_m4, hsf_m3)))) else some ((-1), rc, stf, hsf)))
def f_X5_shift_J18 (fu : Nat) (rc : Int) (stf : Int → Int) (hsf : Int → Int) (x1 : Int)  : Option (Int × Int × (Int → Int) × (Int → Int)) :=
  jb (f_X5_isNote fu stf x1) (fun v2 => jck v2 0 (if v2 = 0 then some ((-1), rc, stf, hsf) else some ((-2), rc, stf, hsf)))
def f_X5_shift (fu : Nat) (rc : Int) (stf : Int → Int) (hsf : Int → Int) (x1 : Int) (x2 : Int) : Option (Int × Int × (Int → Int) × (Int → Int)) :=
  jb (f_X5_isNote fu stf x1) (fun v1 => jck v1 0 (if v1 = 0 then f_X5_shift_J18 fu rc stf hsf x1 else jb (f_X5_within fu x2 0 12) (fun v3 => jck v3 0 (if v3 ≠ 0 then jb2 (f_X5_record fu rc stf hsf) (fun rc_m4 hsf_m5 => jb (f_X5_part fu stf x1 3) (fun v6 => jb (f_X5_setPart fu stf x1 3 x2) (fun stf_m7 => some (v6, rc_m4, stf_m7, hsf_m5)))) else f_X5_shift_J18 fu rc stf hsf x1))))
def f_X5_accent_J33 (fu : Nat) (stf : Int → Int) (x1 : Int) (rc_m2 : Int) (hsf_m3 : Int → Int) (v4 : Int) (v5 : Int) : Option (Int × Int × (Int → Int) × (Int → Int)) :=
  jb (f_X5_setPart fu stf x1 4 v5) (fun stf_m6 => some (v4, rc_m2, stf_m6, hsf_m3))
def f_X5_accent (fu : Nat) (rc : Int) (stf : Int → Int) (hsf : Int → Int) (x1 : Int) (x2 : Int) : Option (Int × Int × (Int → Int) × (Int → Int)) :=
  jb (f_X5_isNote fu stf x1) (fun v1 => jck v1 0 (if v1 ≠ 0 then jb2 (f_X5_record fu rc stf hsf) (fun rc_m2 hsf_m3 => jb (f_X5_part fu stf x1 4) (fun v4 => jck x2 0 (if x2 = 0 then f_X5_accent_J33 fu stf x1 rc_m2 hsf_m3 v4 0 else f_X5_accent_J33 fu stf x1 rc_m2 hsf_m3 v4 1))) else some ((-1), rc, stf, hsf)))
def f_X5_insert_X199 (fu : Nat)  (rc_m5 : Int) (stf_m6 : Int → Int) (hsf_m7 : Int → Int) (v8 : Int) : Option (Int × Int × (Int → Int) × (Int → Int)) :=
  some (v8, rc_m5, stf_m6, hsf_m7)
def f_X5_insert_J189 (fu : Nat) (rc_m9 : Int) (hsf_m11 : Int → Int) (v12 : Int) (v13 : Int) (v17 : Int) (stf_m20 : Int → Int) (v21 : Int) (j73_ : Int → (Int → Int) → (Int → Int) → Int → Int → Option (Int × Int × (Int → Int) × (Int → Int))) (v22 : Int) : Option (Int × Int × (Int → Int) × (Int → Int)) :=
  jb (f_X5_setPart fu stf_m20 v13 2 (v21 + v22)) (fun stf_m23 => j73_ rc_m9 stf_m23 hsf_m11 (v12 + v17) (v13 + 1))
def f_X5_insert_J184 (fu : Nat) (x2 : Int) (rc_m9 : Int) (hsf_m11 : Int → Int) (v12 : Int) (v13 : Int) (v17 : Int) (stf_m20 : Int → Int) (v21 : Int) (j73_ : Int → (Int → Int) → (Int → Int) → Int → Int → Option (Int × Int × (Int → Int) × (Int → Int)))  : Option (Int × Int × (Int → Int) × (Int → Int)) :=
  f_X5_insert_J189 fu rc_m9 hsf_m11 v12 v13 v17 stf_m20 v21 j73_ x2
def f_X5_insert_J159 (fu : Nat) (x2 : Int) (rc_m9 : Int) (stf_m10 : Int → Int) (hsf_m11 : Int → Int) (v12 : Int) (v13 : Int) (v15 : Int) (v16 : Int) (v17 : Int) (v18 : Int) (j73_ : Int → (Int → Int) → (Int → Int) → Int → Int → Option (Int × Int × (Int → Int) × (Int → Int))) (v19 : Int) : Option (Int × Int × (Int → Int) × (Int → Int)) :=
  jb (f_X5_setPart fu stf_m10 v13 1 (v18 + v19)) (fun stf_m20 => jb (f_X5_part fu stf_m20 v13 2) (fun v21 => jck v15 0 (if v15 ≠ 0 then f_X5_insert_J184 fu x2 rc_m9 hsf_m11 v12 v13 v17 stf_m20 v21 j73_ else jck v16 0 (if v16 = 0 then f_X5_insert_J189 fu rc_m9 hsf_m11 v12 v13 v17 stf_m20 v21 j73_ 0 else f_X5_insert_J184 fu x2 rc_m9 hsf_m11 v12 v13 v17 stf_m20 v21 j73_))))
def f_X5_insert_J136 (fu : Nat) (x2 : Int) (rc_m9 : Int) (stf_m10 : Int → Int) (hsf_m11 : Int → Int) (v12 : Int) (v13 : Int) (v15 : Int) (v16 : Int) (j73_ : Int → (Int → Int) → (Int → Int) → Int → Int → Option (Int × Int × (Int → Int) × (Int → Int))) (v17 : Int) : Option (Int × Int × (Int → Int) × (Int → Int)) :=
  jb (f_X5_part fu stf_m10 v13 1) (fun v18 => jck v15 0 (if v15 = 0 then f_X5_insert_J159 fu x2 rc_m9 stf_m10 hsf_m11 v12 v13 v15 v16 v17 v18 j73_ 0 else f_X5_insert_J159 fu x2 rc_m9 stf_m10 hsf_m11 v12 v13 v15 v16 v17 v18 j73_ x2))
def f_X5_insert_J123 (fu : Nat) (x2 : Int) (rc_m9 : Int) (stf_m10 : Int → Int) (hsf_m11 : Int → Int) (v12 : Int) (v13 : Int) (v15 : Int) (j73_ : Int → (Int → Int) → (Int → Int) → Int → Int → Option (Int × Int × (Int → Int) × (Int → Int))) (v16 : Int) : Option (Int × Int × (Int → Int) × (Int → Int)) :=
  jck v16 0 (if v16 = 0 then f_X5_insert_J136 fu x2 rc_m9 stf_m10 hsf_m11 v12 v13 v15 v16 j73_ 0 else f_X5_insert_J136 fu x2 rc_m9 stf_m10 hsf_m11 v12 v13 v15 v16 j73_ 1)
def f_X5_insert_J122 (fu : Nat) (x2 : Int) (rc_m9 : Int) (stf_m10 : Int → Int) (hsf_m11 : Int → Int) (v12 : Int) (v13 : Int) (v15 : Int) (j73_ : Int → (Int → Int) → (Int → Int) → Int → Int → Option (Int × Int × (Int → Int) × (Int → Int)))  : Option (Int × Int × (Int → Int) × (Int → Int)) :=
  f_X5_insert_J123 fu x2 rc_m9 stf_m10 hsf_m11 v12 v13 v15 j73_ 0
def f_X5_insert_J100 (fu : Nat) (x1 : Int) (x2 : Int) (rc_m9 : Int) (stf_m10 : Int → Int) (hsf_m11 : Int → Int) (v12 : Int) (v13 : Int) (j73_ : Int → (Int → Int) → (Int → Int) → Int → Int → Option (Int × Int × (Int → Int) × (Int → Int))) (v15 : Int) : Option (Int × Int × (Int → Int) × (Int → Int)) :=
  jck v15 0 (if v15 ≠ 0 then f_X5_insert_J122 fu x2 rc_m9 stf_m10 hsf_m11 v12 v13 v15 j73_ else jb (f_X5_part fu stf_m10 v13 2) (fun v24 => jck v24 x1 (if v24 < x1 then f_X5_insert_J122 fu x2 rc_m9 stf_m10 hsf_m11 v12 v13 v15 j73_ else f_X5_insert_J123 fu x2 rc_m9 stf_m10 hsf_m11 v12 v13 v15 j73_ 1)))
def f_X5_insert_L73_b (fu : Nat) (x1 : Int) (x2 : Int) (k73_ : Int → (Int → Int) → (Int → Int) → Int → Option (Int × Int × (Int → Int) × (Int → Int))) (j73_ : Int → (Int → Int) → (Int → Int) → Int → Int → Option (Int × Int × (Int → Int) × (Int → Int))) (rc_m9 : Int) (stf_m10 : Int → Int) (hsf_m11 : Int → Int) (v12 : Int) (v13 : Int) : Option (Int × Int × (Int → Int) × (Int → Int)) :=
  jix 205 4 (jck v13 (stf_m10 4) (if (stf_m10 4) ≤ v13 then k73_ rc_m9 stf_m10 hsf_m11 v12 else jb (f_X5_part fu stf_m10 v13 1) (fun v14 => jck v14 x1 (if v14 < x1 then f_X5_insert_J100 fu x1 x2 rc_m9 stf_m10 hsf_m11 v12 v13 j73_ 0 else f_X5_insert_J100 fu x1 x2 rc_m9 stf_m10 hsf_m11 v12 v13 j73_ 1))))
def f_X5_insert_L73 (fu : Nat) (x1 : Int) (x2 : Int) (k73_ : Int → (Int → Int) → (Int → Int) → Int → Option (Int × Int × (Int → Int) × (Int → Int))) : Nat → Int → (Int → Int) → (Int → Int) → Int → Int → Option (Int × Int × (Int → Int) × (Int → Int))
  | 0 => fun _ _ _ _ _ => none
  | n + 1 => f_X5_insert_L73_b fu x1 x2 k73_ (f_X5_insert_L73 fu x1 x2 k73_ n)
def f_X5_insert_X64 (fu : Nat) (rc : Int) (stf : Int → Int) (hsf : Int → Int) (x1 : Int) (x2 : Int)  : Option (Int × Int × (Int → Int) × (Int → Int)) :=
  jb2 (f_X5_record fu rc stf hsf) (fun rc_m3 hsf_m4 => f_X5_insert_L73 fu x1 x2 (f_X5_insert_X199 fu) fu rc_m3 stf hsf_m4 0 0)
def f_X5_insert_L22_b (fu : Nat) (rc : Int) (stf : Int → Int) (hsf : Int → Int) (x1 : Int) (x2 : Int) (k22_ : Option (Int × Int × (Int → Int) × (Int → Int))) (j22_ : Int → Option (Int × Int × (Int → Int) × (Int → Int))) (v25 : Int) : Option (Int × Int × (Int → Int) × (Int → Int)) :=
  jix 205 4 (jck v25 (stf 4) (if (stf 4) ≤ v25 then k22_ else jb (f_X5_part fu stf v25 2) (fun v26 => jck v26 x1 (if v26 < x1 then j22_ (v25 + 1) else jb (f_X5_part fu stf v25 2) (fun v27 => jck (v27 + x2) 100 (if (v27 + x2) < 100 then j22_ (v25 + 1) else some ((-5), rc, stf, hsf)))))))
def f_X5_insert_L22 (fu : Nat) (rc : Int) (stf : Int → Int) (hsf : Int → Int) (x1 : Int) (x2 : Int) (k22_ : Option (Int × Int × (Int → Int) × (Int → Int))) : Nat → Int → Option (Int × Int × (Int → Int) × (Int → Int))
  | 0 => fun _ => none
  | n + 1 => f_X5_insert_L22_b fu rc stf hsf x1 x2 k22_ (f_X5_insert_L22 fu rc stf hsf x1 x2 k22_ n)
def f_X5_insert (fu : Nat) (rc : Int) (stf : Int → Int) (hsf : Int → Int) (x1 : Int) (x2 : Int) : Option (Int × Int × (Int → Int) × (Int → Int)) :=
  jb (f_X5_isStep fu x1) (fun v1 => jck v1 0 (if v1 = 0 then some ((-2), rc, stf, hsf) else jb (f_X5_within fu x2 1 50) (fun v2 => jck v2 0 (if v2 ≠ 0 then f_X5_insert_L22 fu rc stf hsf x1 x2 (f_X5_insert_X64 fu rc stf hsf x1 x2) fu 0 else some ((-2), rc, stf, hsf)))))
def f_X5_firstBy (fu : Nat) (x0 : Int) (x1 : Int) (x2 : Int) : Option (Int) :=
  jck x0 x1 (if x1 ≤ x0 then jck x0 (x1 + x2) (if (x1 + x2) ≤ x0 then some (x0 - x2) else some x1) else some x0)
def f_X5_lastBy (fu : Nat) (x0 : Int) (x1 : Int) (x2 : Int) : Option (Int) :=
  jck x0 x1 (if x1 ≤ x0 then jck x0 (x1 + x2) (if (x1 + x2) ≤ x0 then some (x0 - x2) else some (x1 - 1)) else some x0)
def f_X5_cut_X113 (fu : Nat)  (rc_m5 : Int) (mv_m6 : Int → Int) (stf_m7 : Int → Int) (hsf_m8 : Int → Int) (v9 : Int) : Option (Int × Int × (Int → Int) × (Int → Int) × (Int → Int)) :=
  jb2 (f_X5_putInOrder fu mv_m6 stf_m7) (fun mv_m10 stf_m11 => some (v9, rc_m5, mv_m10, stf_m11, hsf_m8))
def f_X5_cut_L38_b (fu : Nat) (x1 : Int) (x2 : Int) (k38_ : Int → (Int → Int) → (Int → Int) → (Int → Int) → Int → Option (Int × Int × (Int → Int) × (Int → Int) × (Int → Int))) (j38_ : Int → (Int → Int) → (Int → Int) → (Int → Int) → Int → Int → Option (Int × Int × (Int → Int) × (Int → Int) × (Int → Int))) (rc_m12 : Int) (mv_m13 : Int → Int) (stf_m14 : Int → Int) (hsf_m15 : Int → Int) (v16 : Int) (v17 : Int) : Option (Int × Int × (Int → Int) × (Int → Int) × (Int → Int)) :=
  jck v17 0 (if v17 < 0 then k38_ rc_m12 mv_m13 stf_m14 hsf_m15 v16 else jb (f_X5_part fu stf_m14 v17 1) (fun v18 => jb (f_X5_firstBy fu v18 x1 x2) (fun v19 => jb (f_X5_setPart fu stf_m14 v17 1 v19) (fun stf_m20 => jb (f_X5_part fu stf_m20 v17 2) (fun v21 => jb (f_X5_lastBy fu v21 x1 x2) (fun v22 => jb (f_X5_setPart fu stf_m20 v17 2 v22) (fun stf_m23 => jb (f_X5_part fu stf_m23 v17 2) (fun v24 => jb (f_X5_part fu stf_m23 v17 1) (fun v25 => jck v24 v25 (if v25 ≤ v24 then j38_ rc_m12 mv_m13 stf_m23 hsf_m15 v16 (v17 + (-1)) else jb (f_X5_takeOut fu stf_m23 v17) (fun stf_m26 => j38_ rc_m12 mv_m13 stf_m26 hsf_m15 (v16 + 1) (v17 + (-1)))))))))))))
def f_X5_cut_L38 (fu : Nat) (x1 : Int) (x2 : Int) (k38_ : Int → (Int → Int) → (Int → Int) → (Int → Int) → Int → Option (Int × Int × (Int → Int) × (Int → Int) × (Int → Int))) : Nat → Int → (Int → Int) → (Int → Int) → (Int → Int) → Int → Int → Option (Int × Int × (Int → Int) × (Int → Int) × (Int → Int))
  | 0 => fun _ _ _ _ _ _ => none
  | n + 1 => f_X5_cut_L38_b fu x1 x2 k38_ (f_X5_cut_L38 fu x1 x2 k38_ n)
def f_X5_cut (fu : Nat) (rc : Int) (mv : Int → Int) (stf : Int → Int) (hsf : Int → Int) (x1 : Int) (x2 : Int) : Option (Int × Int × (Int → Int) × (Int → Int) × (Int → Int)) :=
  jb (f_X5_isStep fu x1) (fun v1 => jck v1 0 (if v1 = 0 then some ((-2), rc, mv, stf, hsf) else jb (f_X5_within fu x2 1 (100 - x1)) (fun v2 => jck v2 0 (if v2 ≠ 0 then jb2 (f_X5_record fu rc stf hsf) (fun rc_m3 hsf_m4 => jix 205 4 (f_X5_cut_L38 fu x1 x2 (f_X5_cut_X113 fu) fu rc_m3 mv stf hsf_m4 0 ((stf 4) - 1))) else some ((-2), rc, mv, stf, hsf)))))
def f_X5_isBetween (fu : Nat) (stf : Int → Int) (x1 : Int) (x2 : Int) (x3 : Int) : Option (Int) :=
  jb (f_X5_part fu stf x1 1) (fun v1 => jck v1 x2 (if v1 < x2 then jbo 0 (some 0) else jb (f_X5_part fu stf x1 2) (fun v2 => jck v2 x3 (if x3 < v2 then jbo 0 (some 0) else jbo 1 (some 1)))))
def f_X5_betweenMany_X41 (fu : Nat)  (v1 : Int) : Option (Int) :=
  some v1
def f_X5_betweenMany_L5_b (fu : Nat) (stf : Int → Int) (x1 : Int) (x2 : Int) (k5_ : Int → Option (Int)) (j5_ : Int → Int → Option (Int)) (v2 : Int) (v3 : Int) : Option (Int) :=
  jix 205 4 (jck v3 (stf 4) (if (stf 4) ≤ v3 then k5_ v2 else jb (f_X5_isBetween fu stf v3 x1 x2) (fun v4 => jck v4 0 (if v4 = 0 then j5_ (v2 + 0) (v3 + 1) else j5_ (v2 + 1) (v3 + 1)))))
def f_X5_betweenMany_L5 (fu : Nat) (stf : Int → Int) (x1 : Int) (x2 : Int) (k5_ : Int → Option (Int)) : Nat → Int → Int → Option (Int)
  | 0 => fun _ _ => none
  | n + 1 => f_X5_betweenMany_L5_b fu stf x1 x2 k5_ (f_X5_betweenMany_L5 fu stf x1 x2 k5_ n)
def f_X5_betweenMany (fu : Nat) (stf : Int → Int) (x1 : Int) (x2 : Int) : Option (Int) :=
  f_X5_betweenMany_L5 fu stf x1 x2 (f_X5_betweenMany_X41 fu) fu 0 0
def f_X5_whyNotCopied_X125 (fu : Nat)  (v2 : Int) : Option (Int) :=
  jck v2 0 (if v2 = 0 then some (-5) else some 0)
def f_X5_whyNotCopied_L27_b (fu : Nat) (stf : Int → Int) (x1 : Int) (x2 : Int) (x3 : Int) (k27_ : Int → Option (Int)) (j27_ : Int → Int → Option (Int)) (v3 : Int) (v4 : Int) : Option (Int) :=
  jix 205 4 (jck v4 (stf 4) (if (stf 4) ≤ v4 then k27_ v3 else jb (f_X5_isBetween fu stf v4 x1 x2) (fun v5 => jck v3 0 (if v3 = 0 then j27_ 0 (v4 + 1) else jck v5 0 (if v5 = 0 then j27_ 1 (v4 + 1) else jb (f_X5_part fu stf v4 2) (fun v6 => jck (v6 + (x3 - x1)) 100 (if 100 ≤ (v6 + (x3 - x1)) then j27_ 0 (v4 + 1) else jb (f_X5_part fu stf v4 0) (fun v7 => jb (f_X5_part fu stf v4 1) (fun v8 => jb (f_X5_part fu stf v4 2) (fun v9 => jb (f_X5_isTaken fu stf v7 (v8 + (x3 - x1)) (v9 + (x3 - x1))) (fun v10 => jck v10 0 (if v10 ≠ 0 then j27_ 0 (v4 + 1) else j27_ 1 (v4 + 1)))))))))))))
def f_X5_whyNotCopied_L27 (fu : Nat) (stf : Int → Int) (x1 : Int) (x2 : Int) (x3 : Int) (k27_ : Int → Option (Int)) : Nat → Int → Int → Option (Int)
  | 0 => fun _ _ => none
  | n + 1 => f_X5_whyNotCopied_L27_b fu stf x1 x2 x3 k27_ (f_X5_whyNotCopied_L27 fu stf x1 x2 x3 k27_ n)
def f_X5_whyNotCopied (fu : Nat) (stf : Int → Int) (x1 : Int) (x2 : Int) (x3 : Int) : Option (Int) :=
  jix 205 4 (jb (f_X5_betweenMany fu stf x1 x2) (fun v1 => jck ((stf 4) + v1) 40 (if ((stf 4) + v1) ≤ 40 then f_X5_whyNotCopied_L27 fu stf x1 x2 x3 (f_X5_whyNotCopied_X125 fu) fu 1 0 else some (-4))))
def f_X5_isPassage (fu : Nat) (x0 : Int) (x1 : Int) : Option (Int) :=
  jb (f_X5_isStep fu x0) (fun v1 => jck v1 0 (if v1 = 0 then jbo 0 (some 0) else jb (f_X5_isStep fu x1) (fun v2 => jck v2 0 (if v2 = 0 then jbo 0 (some 0) else jck x0 x1 (if x1 < x0 then jbo 0 (some 0) else jbo 1 (some 1))))))
def f_X5_copy_X170 (fu : Nat)  (rc_m7 : Int) (stf_m8 : Int → Int) (kpf_m9 : Int → Int) (hsf_m10 : Int → Int) (v11 : Int) : Option (Int × Int × (Int → Int) × (Int → Int) × (Int → Int)) :=
  some (v11, rc_m7, stf_m8, kpf_m9, hsf_m10)
def f_X5_copy_L58_b (fu : Nat) (x1 : Int) (x2 : Int) (x3 : Int) (k58_ : Int → (Int → Int) → (Int → Int) → (Int → Int) → Int → Option (Int × Int × (Int → Int) × (Int → Int) × (Int → Int))) (j58_ : Int → (Int → Int) → (Int → Int) → (Int → Int) → Int → Int → Option (Int × Int × (Int → Int) × (Int → Int) × (Int → Int))) (rc_m12 : Int) (stf_m13 : Int → Int) (kpf_m14 : Int → Int) (hsf_m15 : Int → Int) (v16 : Int) (v17 : Int) : Option (Int × Int × (Int → Int) × (Int → Int) × (Int → Int)) :=
  jix 205 4 (jck v17 (kpf_m14 4) (if (kpf_m14 4) ≤ v17 then k58_ rc_m12 stf_m13 kpf_m14 hsf_m15 v16 else jix 205 ((5 + (5 * v17)) + 1) (jck (kpf_m14 ((5 + (5 * v17)) + 1)) x1 (if (kpf_m14 ((5 + (5 * v17)) + 1)) < x1 then j58_ rc_m12 stf_m13 kpf_m14 hsf_m15 v16 (v17 + 1) else jix 205 ((5 + (5 * v17)) + 2) (jck (kpf_m14 ((5 + (5 * v17)) + 2)) x2 (if x2 < (kpf_m14 ((5 + (5 * v17)) + 2)) then j58_ rc_m12 stf_m13 kpf_m14 hsf_m15 v16 (v17 + 1) else jix 205 ((5 + (5 * v17)) + 0) (jix 205 ((5 + (5 * v17)) + 1) (jix 205 ((5 + (5 * v17)) + 2) (jix 205 ((5 + (5 * v17)) + 3) (jix 205 ((5 + (5 * v17)) + 4) (jb2 (f_X5_putIn fu stf_m13 (kpf_m14 ((5 + (5 * v17)) + 0)) (((kpf_m14 ((5 + (5 * v17)) + 1)) + x3) - x1) (((kpf_m14 ((5 + (5 * v17)) + 2)) + x3) - x1) (kpf_m14 ((5 + (5 * v17)) + 3)) (kpf_m14 ((5 + (5 * v17)) + 4))) (fun v18 stf_m19 => j58_ rc_m12 stf_m19 kpf_m14 hsf_m15 (v16 + 1) (v17 + 1)))))))))))))
def f_X5_copy_L58 (fu : Nat) (x1 : Int) (x2 : Int) (x3 : Int) (k58_ : Int → (Int → Int) → (Int → Int) → (Int → Int) → Int → Option (Int × Int × (Int → Int) × (Int → Int) × (Int → Int))) : Nat → Int → (Int → Int) → (Int → Int) → (Int → Int) → Int → Int → Option (Int × Int × (Int → Int) × (Int → Int) × (Int → Int))
  | 0 => fun _ _ _ _ _ _ => none
  | n + 1 => f_X5_copy_L58_b fu x1 x2 x3 k58_ (f_X5_copy_L58 fu x1 x2 x3 k58_ n)
def f_X5_copy (fu : Nat) (rc : Int) (stf : Int → Int) (kpf : Int → Int) (hsf : Int → Int) (x1 : Int) (x2 : Int) (x3 : Int) : Option (Int × Int × (Int → Int) × (Int → Int) × (Int → Int)) :=
  jb (f_X5_isPassage fu x1 x2) (fun v1 => jck v1 0 (if v1 = 0 then some ((-2), rc, stf, kpf, hsf) else jb (f_X5_isStep fu x3) (fun v2 => jck v2 0 (if v2 ≠ 0 then jb (f_X5_whyNotCopied fu stf x1 x2 x3) (fun v3 => jck v3 0 (if 0 ≤ v3 then jb2 (f_X5_record fu rc stf hsf) (fun rc_m4 hsf_m5 => jb (f_X5_moves fu 205 205 stf kpf 0 0) (fun q2f_m6 => f_X5_copy_L58 fu x1 x2 x3 (f_X5_copy_X170 fu) fu rc_m4 stf q2f_m6 hsf_m5 0 0)) else some (v3, rc, stf, kpf, hsf))) else some ((-2), rc, stf, kpf, hsf)))))
def f_X5_character (fu : Nat) (pd : Int → Int) (pn : Int) (x1 : Int) : Option (Int) :=
  jck x1 pn (if pn ≤ x1 then some (-1) else jix 60 x1 (some (pd x1)))
def f_X5_takeNumber_X108 (fu : Nat)  (at__m3 : Int) (v4 : Int) : Option (Int × Int) :=
  some (v4, at__m3)
def f_X5_takeNumber_J34 (fu : Nat) (pd : Int → Int) (pn : Int) (x1 : Int) (at__m5 : Int) (j18_ : Int → Int → Int → Option (Int × Int)) (v8 : Int) : Option (Int × Int) :=
  jb (f_X5_character fu pd pn at__m5) (fun v9 => jck ((v8 + v9) - 48) 0 (if ((v8 + v9) - 48) ≤ 0 then j18_ (at__m5 + 1) ((v8 + v9) - 48) 0 else jb (f_X5_character fu pd pn (at__m5 + 1)) (fun v10 => jb (f_X5_within fu v10 48 57) (fun v11 => jck v11 0 (if v11 = 0 then j18_ (at__m5 + 1) ((v8 + v9) - 48) 0 else jb (f_X5_character fu pd pn (at__m5 + 1)) (fun v12 => jck (((10 * ((v8 + v9) - 48)) + v12) - 48) x1 (if x1 < (((10 * ((v8 + v9) - 48)) + v12) - 48) then j18_ (at__m5 + 1) ((v8 + v9) - 48) 0 else j18_ (at__m5 + 1) ((v8 + v9) - 48) 1)))))))
def f_X5_takeNumber_L18_b (fu : Nat) (pd : Int → Int) (pn : Int) (x1 : Int) (k18_ : Int → Int → Option (Int × Int)) (j18_ : Int → Int → Int → Option (Int × Int)) (at__m5 : Int) (v6 : Int) (v7 : Int) : Option (Int × Int) :=
  jck v7 0 (if v7 = 0 then k18_ at__m5 v6 else jck v6 0 (if 0 ≤ v6 then f_X5_takeNumber_J34 fu pd pn x1 at__m5 j18_ (10 * v6) else f_X5_takeNumber_J34 fu pd pn x1 at__m5 j18_ 0))
def f_X5_takeNumber_L18 (fu : Nat) (pd : Int → Int) (pn : Int) (x1 : Int) (k18_ : Int → Int → Option (Int × Int)) : Nat → Int → Int → Int → Option (Int × Int)
  | 0 => fun _ _ _ => none
  | n + 1 => f_X5_takeNumber_L18_b fu pd pn x1 k18_ (f_X5_takeNumber_L18 fu pd pn x1 k18_ n)
def f_X5_takeNumber (fu : Nat) (pd : Int → Int) (pn : Int) (at_ : Int) (x1 : Int) : Option (Int × Int) :=
  jb (f_X5_character fu pd pn at_) (fun v1 => jb (f_X5_within fu v1 48 57) (fun v2 => f_X5_takeNumber_L18 fu pd pn x1 (f_X5_takeNumber_X108 fu) fu at_ (-1) v2))
def f_X5_isNext_J32 (fu : Nat) (at_ : Int) (v2 : Int) (v3 : Int) : Option (Int × Int) :=
  jbo v2 (some (v2, (at_ + v3)))
def f_X5_isNext_J17 (fu : Nat) (at_ : Int) (v2 : Int) : Option (Int × Int) :=
  jck v2 0 (if v2 = 0 then f_X5_isNext_J32 fu at_ v2 0 else f_X5_isNext_J32 fu at_ v2 1)
def f_X5_isNext (fu : Nat) (pd : Int → Int) (pn : Int) (at_ : Int) (x1 : Int) : Option (Int × Int) :=
  jb (f_X5_character fu pd pn at_) (fun v1 => jck v1 x1 (if v1 ≠ x1 then f_X5_isNext_J17 fu at_ 0 else f_X5_isNext_J17 fu at_ 1))
def f_X5_readsNote_J92 (fu : Nat)  (at__m15 : Int) (tk_m16 : Int) (fs_m17 : Int) (lt_m18 : Int) (ea_m19 : Int) (v20 : Int) : Option (Int × Int × Int × Int × Int × Int) :=
  jck lt_m18 0 (if lt_m18 < 0 then jbo 0 (some (0, at__m15, tk_m16, fs_m17, lt_m18, v20)) else jbo 1 (some (1, at__m15, tk_m16, fs_m17, lt_m18, v20)))
def f_X5_readsNote_J91 (fu : Nat)  (at__m21 : Int) (tk_m22 : Int) (fs_m23 : Int) (lt_m24 : Int) (ea_m25 : Int) : Option (Int × Int × Int × Int × Int × Int) :=
  f_X5_readsNote_J92 fu at__m21 tk_m22 fs_m23 lt_m24 ea_m25 0
def f_X5_readsNote_J67 (fu : Nat) (pd : Int → Int) (pn : Int) (at__m9 : Int) (tk_m10 : Int) (fs_m11 : Int) (lt_m12 : Int) (ea_m13 : Int) (v14 : Int) : Option (Int × Int × Int × Int × Int × Int) :=
  jck v14 0 (if v14 < 0 then f_X5_readsNote_J91 fu at__m9 tk_m10 fs_m11 v14 ea_m13 else jb2 (f_X5_isNext fu pd pn at__m9 33) (fun v26 at__m27 => jck v26 0 (if v26 = 0 then f_X5_readsNote_J91 fu at__m27 tk_m10 fs_m11 v14 ea_m13 else f_X5_readsNote_J92 fu at__m27 tk_m10 fs_m11 v14 ea_m13 1)))
def f_X5_readsNote_J66 (fu : Nat) (pd : Int → Int) (pn : Int) (at__m28 : Int) (tk_m29 : Int) (fs_m30 : Int) (lt_m31 : Int) (ea_m32 : Int) : Option (Int × Int × Int × Int × Int × Int) :=
  f_X5_readsNote_J67 fu pd pn at__m28 tk_m29 fs_m30 lt_m31 ea_m32 (-1)
def f_X5_readsNote_J37 (fu : Nat) (pd : Int → Int) (pn : Int) (at__m3 : Int) (tk_m4 : Int) (fs_m5 : Int) (lt_m6 : Int) (ea_m7 : Int) (v8 : Int) : Option (Int × Int × Int × Int × Int × Int) :=
  jck v8 0 (if v8 < 0 then f_X5_readsNote_J66 fu pd pn at__m3 tk_m4 v8 lt_m6 ea_m7 else jb2 (f_X5_isNext fu pd pn at__m3 45) (fun v33 at__m34 => jck v33 0 (if v33 = 0 then f_X5_readsNote_J66 fu pd pn at__m34 tk_m4 v8 lt_m6 ea_m7 else jb2 (f_X5_takeNumber fu pd pn at__m34 99) (fun v35 at__m36 => f_X5_readsNote_J67 fu pd pn at__m36 tk_m4 v8 lt_m6 ea_m7 v35))))
def f_X5_readsNote_J36 (fu : Nat) (pd : Int → Int) (pn : Int) (at__m37 : Int) (tk_m38 : Int) (fs_m39 : Int) (lt_m40 : Int) (ea_m41 : Int) : Option (Int × Int × Int × Int × Int × Int) :=
  f_X5_readsNote_J37 fu pd pn at__m37 tk_m38 fs_m39 lt_m40 ea_m41 (-1)
def f_X5_readsNote (fu : Nat) (pd : Int → Int) (pn : Int) (at_ : Int) (tk : Int) (fs : Int) (lt : Int) (ea : Int) : Option (Int × Int × Int × Int × Int × Int) :=
  jb2 (f_X5_takeNumber fu pd pn at_ 11) (fun v1 at__m2 => jck v1 0 (if v1 < 0 then f_X5_readsNote_J36 fu pd pn at__m2 v1 fs lt ea else jb2 (f_X5_isNext fu pd pn at__m2 58) (fun v42 at__m43 => jck v42 0 (if v42 = 0 then f_X5_readsNote_J36 fu pd pn at__m43 v1 fs lt ea else jb2 (f_X5_takeNumber fu pd pn at__m43 99) (fun v44 at__m45 => f_X5_readsNote_J37 fu pd pn at__m45 v1 fs lt ea v44)))))
def f_X5_wrongInPad_X116 (fu : Nat)  (at__m1 : Int) (tk_m2 : Int) (fs_m3 : Int) (lt_m4 : Int) (ea_m5 : Int) (stf_m6 : Int → Int) (v7 : Int) : Option (Int × Int × Int × Int × Int × Int × (Int → Int)) :=
  some (v7, at__m1, tk_m2, fs_m3, lt_m4, ea_m5, stf_m6)
def f_X5_wrongInPad_J90 (fu : Nat) (x1 : Int) (stf_m13 : Int → Int) (v14 : Int) (tk_m17 : Int) (fs_m18 : Int) (lt_m19 : Int) (ea_m20 : Int) (at__m22 : Int) (j7_ : Int → Int → Int → Int → Int → (Int → Int) → Int → Option (Int × Int × Int × Int × Int × Int × (Int → Int)))  : Option (Int × Int × Int × Int × Int × Int × (Int → Int)) :=
  jck x1 0 (if x1 ≠ 0 then j7_ at__m22 tk_m17 fs_m18 lt_m19 ea_m20 stf_m13 (v14 + 1) else jck lt_m19 fs_m18 (if fs_m18 ≤ lt_m19 then j7_ at__m22 tk_m17 fs_m18 lt_m19 ea_m20 stf_m13 (v14 + 0) else j7_ at__m22 tk_m17 fs_m18 lt_m19 ea_m20 stf_m13 (v14 + 1)))
def f_X5_wrongInPad_L7_b (fu : Nat) (pd : Int → Int) (pn : Int) (x1 : Int) (k7_ : Int → Int → Int → Int → Int → (Int → Int) → Int → Option (Int × Int × Int × Int × Int × Int × (Int → Int))) (j7_ : Int → Int → Int → Int → Int → (Int → Int) → Int → Option (Int × Int × Int × Int × Int × Int × (Int → Int))) (at__m8 : Int) (tk_m9 : Int) (fs_m10 : Int) (lt_m11 : Int) (ea_m12 : Int) (stf_m13 : Int → Int) (v14 : Int) : Option (Int × Int × Int × Int × Int × Int × (Int → Int)) :=
  jck at__m8 pn (if pn ≤ at__m8 then k7_ at__m8 tk_m9 fs_m10 lt_m11 ea_m12 stf_m13 v14 else jb6 (f_X5_readsNote fu pd pn at__m8 tk_m9 fs_m10 lt_m11 ea_m12) (fun v15 at__m16 tk_m17 fs_m18 lt_m19 ea_m20 => jb2 (f_X5_isNext fu pd pn at__m16 59) (fun v21 at__m22 => jck x1 0 (if x1 = 0 then f_X5_wrongInPad_J90 fu x1 stf_m13 v14 tk_m17 fs_m18 lt_m19 ea_m20 at__m22 j7_ else jb (f_X5_isTaken fu stf_m13 tk_m17 fs_m18 lt_m19) (fun v23 => jck v23 0 (if v23 ≠ 0 then f_X5_wrongInPad_J90 fu x1 stf_m13 v14 tk_m17 fs_m18 lt_m19 ea_m20 at__m22 j7_ else jb2 (f_X5_putIn fu stf_m13 tk_m17 fs_m18 lt_m19 0 ea_m20) (fun v24 stf_m25 => jck v24 0 (if 0 ≤ v24 then j7_ at__m22 tk_m17 fs_m18 lt_m19 ea_m20 stf_m25 (v14 + 0) else j7_ at__m22 tk_m17 fs_m18 lt_m19 ea_m20 stf_m25 (v14 + 1)))))))))
def f_X5_wrongInPad_L7 (fu : Nat) (pd : Int → Int) (pn : Int) (x1 : Int) (k7_ : Int → Int → Int → Int → Int → (Int → Int) → Int → Option (Int × Int × Int × Int × Int × Int × (Int → Int))) : Nat → Int → Int → Int → Int → Int → (Int → Int) → Int → Option (Int × Int × Int × Int × Int × Int × (Int → Int))
  | 0 => fun _ _ _ _ _ _ _ => none
  | n + 1 => f_X5_wrongInPad_L7_b fu pd pn x1 k7_ (f_X5_wrongInPad_L7 fu pd pn x1 k7_ n)
def f_X5_wrongInPad (fu : Nat) (pd : Int → Int) (pn : Int) (at_ : Int) (tk : Int) (fs : Int) (lt : Int) (ea : Int) (stf : Int → Int) (x1 : Int) : Option (Int × Int × Int × Int × Int × Int × (Int → Int)) :=
  f_X5_wrongInPad_L7 fu pd pn x1 (f_X5_wrongInPad_X116 fu) fu 0 tk fs lt ea stf 0
def f_X5_notesInPad_X37 (fu : Nat)  (v1 : Int) : Option (Int) :=
  some v1
def f_X5_notesInPad_L4_b (fu : Nat) (pd : Int → Int) (pn : Int) (k4_ : Int → Option (Int)) (j4_ : Int → Int → Option (Int)) (v2 : Int) (v3 : Int) : Option (Int) :=
  jck v3 pn (if pn ≤ v3 then k4_ v2 else jix 60 v3 (jck (pd v3) 59 (if (pd v3) ≠ 59 then j4_ (v2 + 0) (v3 + 1) else j4_ (v2 + 1) (v3 + 1))))
def f_X5_notesInPad_L4 (fu : Nat) (pd : Int → Int) (pn : Int) (k4_ : Int → Option (Int)) : Nat → Int → Int → Option (Int)
  | 0 => fun _ _ => none
  | n + 1 => f_X5_notesInPad_L4_b fu pd pn k4_ (f_X5_notesInPad_L4 fu pd pn k4_ n)
def f_X5_notesInPad (fu : Nat) (pd : Int → Int) (pn : Int) : Option (Int) :=
  f_X5_notesInPad_L4 fu pd pn (f_X5_notesInPad_X37 fu) fu 1 0
def f_X5_findFault_X40 (fu : Nat)  (at__m1 : Int) (tk_m2 : Int) (fs_m3 : Int) (lt_m4 : Int) (ea_m5 : Int) : Option (Int × Int × Int × Int × Int × Int) :=
  some (at__m1, at__m1, tk_m2, fs_m3, lt_m4, ea_m5)
def f_X5_findFault_L5_b (fu : Nat) (pd : Int → Int) (pn : Int) (k5_ : Int → Int → Int → Int → Int → Option (Int × Int × Int × Int × Int × Int)) (j5_ : Int → Int → Int → Int → Int → Option (Int × Int × Int × Int × Int × Int)) (at__m6 : Int) (tk_m7 : Int) (fs_m8 : Int) (lt_m9 : Int) (ea_m10 : Int) : Option (Int × Int × Int × Int × Int × Int) :=
  jb6 (f_X5_readsNote fu pd pn at__m6 tk_m7 fs_m8 lt_m9 ea_m10) (fun v11 at__m12 tk_m13 fs_m14 lt_m15 ea_m16 => jck v11 0 (if v11 ≠ 0 then jck at__m12 pn (if at__m12 ≠ pn then jb2 (f_X5_isNext fu pd pn at__m12 59) (fun v17 at__m18 => jck v17 0 (if v17 ≠ 0 then j5_ at__m18 tk_m13 fs_m14 lt_m15 ea_m16 else k5_ at__m18 tk_m13 fs_m14 lt_m15 ea_m16)) else some ((-6), at__m12, tk_m13, fs_m14, lt_m15, ea_m16)) else some (at__m12, at__m12, tk_m13, fs_m14, lt_m15, ea_m16)))
def f_X5_findFault_L5 (fu : Nat) (pd : Int → Int) (pn : Int) (k5_ : Int → Int → Int → Int → Int → Option (Int × Int × Int × Int × Int × Int)) : Nat → Int → Int → Int → Int → Int → Option (Int × Int × Int × Int × Int × Int)
  | 0 => fun _ _ _ _ _ => none
  | n + 1 => f_X5_findFault_L5_b fu pd pn k5_ (f_X5_findFault_L5 fu pd pn k5_ n)
def f_X5_findFault (fu : Nat) (pd : Int → Int) (pn : Int) (at_ : Int) (tk : Int) (fs : Int) (lt : Int) (ea : Int) : Option (Int × Int × Int × Int × Int × Int) :=
  f_X5_findFault_L5 fu pd pn (f_X5_findFault_X40 fu) fu 0 tk fs lt ea
def f_X5_read_J68 (fu : Nat) (rc : Int) (pd : Int → Int) (pn : Int) (hsf : Int → Int) (at__m17 : Int) (tk_m18 : Int) (fs_m19 : Int) (lt_m20 : Int) (ea_m21 : Int) (stf_m22 : Int → Int) (q2f_m15 : Int → Int) (v23 : Int) : Option (Int × Int × Int × Int × Int × Int × Int × Int × (Int → Int) × (Int → Int) × (Int → Int)) :=
  jb (f_X5_moves fu 205 205 q2f_m15 stf_m22 0 0) (fun q2f_m24 => jck v23 0 (if v23 ≠ 0 then jb2 (f_X5_record fu rc q2f_m24 hsf) (fun rc_m25 hsf_m26 => jb7 (f_X5_wrongInPad fu pd pn at__m17 tk_m18 fs_m19 lt_m20 ea_m21 q2f_m24 1) (fun v27 at__m28 tk_m29 fs_m30 lt_m31 ea_m32 stf_m33 => jix 205 4 (some ((stf_m33 4), rc_m25, 0, at__m28, tk_m29, fs_m30, lt_m31, ea_m32, stf_m33, q2f_m15, hsf_m26)))) else some ((-5), rc, pn, at__m17, tk_m18, fs_m19, lt_m20, ea_m21, q2f_m24, q2f_m15, hsf)))
def f_X5_read (fu : Nat) (rc : Int) (pd : Int → Int) (pn : Int) (at_ : Int) (tk : Int) (fs : Int) (lt : Int) (ea : Int) (stf : Int → Int) (kpf : Int → Int) (hsf : Int → Int) : Option (Int × Int × Int × Int × Int × Int × Int × Int × (Int → Int) × (Int → Int) × (Int → Int)) :=
  jb6 (f_X5_findFault fu pd pn at_ tk fs lt ea) (fun v1 at__m2 tk_m3 fs_m4 lt_m5 ea_m6 => jck v1 (-6) (if v1 = (-6) then jb7 (f_X5_wrongInPad fu pd pn at__m2 tk_m3 fs_m4 lt_m5 ea_m6 stf 0) (fun v7 at__m8 tk_m9 fs_m10 lt_m11 ea_m12 stf_m13 => jck v7 0 (if v7 ≤ 0 then jix 205 4 (jb (f_X5_notesInPad fu pd pn) (fun v14 => jck ((stf_m13 4) + v14) 40 (if ((stf_m13 4) + v14) ≤ 40 then jb (f_X5_moves fu 205 205 stf_m13 kpf 0 0) (fun q2f_m15 => jb7 (f_X5_wrongInPad fu pd pn at__m8 tk_m9 fs_m10 lt_m11 ea_m12 stf_m13 1) (fun v16 at__m17 tk_m18 fs_m19 lt_m20 ea_m21 stf_m22 => jck v16 0 (if v16 ≠ 0 then f_X5_read_J68 fu rc pd pn hsf at__m17 tk_m18 fs_m19 lt_m20 ea_m21 stf_m22 q2f_m15 0 else f_X5_read_J68 fu rc pd pn hsf at__m17 tk_m18 fs_m19 lt_m20 ea_m21 stf_m22 q2f_m15 1))) else some ((-4), rc, pn, at__m8, tk_m9, fs_m10, lt_m11, ea_m12, stf_m13, kpf, hsf)))) else some ((-2), rc, pn, at__m8, tk_m9, fs_m10, lt_m11, ea_m12, stf_m13, kpf, hsf))) else some ((-3), rc, pn, at__m2, tk_m3, fs_m4, lt_m5, ea_m6, stf, kpf, hsf)))
def f_X5_bridges_X87 (fu : Nat) (x2 : Int) (v2 : Int) (v3 : Int) : Option (Int) :=
  jck x2 0 (if x2 = 0 then some v2 else some v3)
def f_X5_bridges_J63 (fu : Nat) (v4 : Int) (v6 : Int) (v7 : Int) (v10 : Int) (j16_ : Int → Int → Int → Int → Option (Int)) (v12 : Int) : Option (Int) :=
  jck v10 v6 (if v10 ≤ v6 then j16_ (v4 + v12) v10 v6 (v7 + 1) else j16_ (v4 + v12) v10 v10 (v7 + 1))
def f_X5_bridges_J45 (fu : Nat) (stf : Int → Int) (x1 : Int) (v4 : Int) (v6 : Int) (v7 : Int) (j16_ : Int → Int → Int → Int → Option (Int)) (v10 : Int) : Option (Int) :=
  jb (f_X5_isHole fu stf x1 v7) (fun v11 => jck v11 0 (if v11 = 0 then f_X5_bridges_J63 fu v4 v6 v7 v10 j16_ 1 else f_X5_bridges_J63 fu v4 v6 v7 v10 j16_ 0))
def f_X5_bridges_L16_b (fu : Nat) (stf : Int → Int) (x1 : Int) (k16_ : Int → Int → Option (Int)) (j16_ : Int → Int → Int → Int → Option (Int)) (v4 : Int) (v5 : Int) (v6 : Int) (v7 : Int) : Option (Int) :=
  jb (f_X5_part fu stf x1 2) (fun v8 => jck v7 v8 (if v8 < v7 then k16_ v4 v6 else jb (f_X5_isHole fu stf x1 v7) (fun v9 => jck v9 0 (if v9 = 0 then f_X5_bridges_J45 fu stf x1 v4 v6 v7 j16_ (v5 + 1) else f_X5_bridges_J45 fu stf x1 v4 v6 v7 j16_ 0))))
def f_X5_bridges_L16 (fu : Nat) (stf : Int → Int) (x1 : Int) (k16_ : Int → Int → Option (Int)) : Nat → Int → Int → Int → Int → Option (Int)
  | 0 => fun _ _ _ _ => none
  | n + 1 => f_X5_bridges_L16_b fu stf x1 k16_ (f_X5_bridges_L16 fu stf x1 k16_ n)
def f_X5_bridges (fu : Nat) (stf : Int → Int) (x1 : Int) (x2 : Int) : Option (Int) :=
  jb (f_X5_part fu stf x1 1) (fun v1 => f_X5_bridges_L16 fu stf x1 (f_X5_bridges_X87 fu x2) fu 0 0 0 v1)
def f_X5_of (fu : Nat) (ho : Int → Int) (eh : Int → Int) (stf : Int → Int) (x1 : Int) (x2 : Int) : Option (Int × (Int → Int) × (Int → Int)) :=
  jb (f_X5_isNote fu stf x1) (fun v1 => jck v1 0 (if v1 ≠ 0 then jck x2 0 (if x2 = 0 then jb (f_X5_part fu stf x1 x2) (fun v2 => some (v2, ho, eh)) else if x2 = 1 then jb (f_X5_part fu stf x1 x2) (fun v3 => some (v3, ho, eh)) else if x2 = 2 then jb (f_X5_part fu stf x1 x2) (fun v4 => some (v4, ho, eh)) else if x2 = 3 then jb (f_X5_part fu stf x1 x2) (fun v5 => some (v5, ho, eh)) else if x2 = 4 then jb (f_X5_part fu stf x1 x2) (fun v6 => some (v6, ho, eh)) else if x2 = 5 then jb (f_X5_bridges fu stf x1 0) (fun v7 => some (v7, ho, eh)) else if x2 = 6 then jb (f_X5_bridges fu stf x1 1) (fun v8 => some (v8, ho, eh)) else if x2 = 7 then jb2 (f_X5_findHeard fu ho eh stf) (fun ho_m9 eh_m10 => jb (f_X5_isWholeHeard fu eh_m10 stf x1) (fun v11 => jck v11 0 (if v11 = 0 then some (0, ho_m9, eh_m10) else some (1, ho_m9, eh_m10)))) else some ((-2), ho, eh)) else some ((-1), ho, eh)))
def f_X5_tracksAt_X54 (fu : Nat)  (v1 : Int) : Option (Int) :=
  some v1
def f_X5_tracksAt_L4_b (fu : Nat) (stf : Int → Int) (x1 : Int) (k4_ : Int → Option (Int)) (j4_ : Int → Int → Option (Int)) (v2 : Int) (v3 : Int) : Option (Int) :=
  jix 205 4 (jck v3 (stf 4) (if (stf 4) ≤ v3 then k4_ v2 else jb (f_X5_part fu stf v3 1) (fun v4 => jb (f_X5_part fu stf v3 2) (fun v5 => jb (f_X5_within fu x1 v4 v5) (fun v6 => jck v6 0 (if v6 = 0 then j4_ (jor v2 0) (v3 + 1) else jb (f_X5_part fu stf v3 0) (fun v7 => j4_ (jor v2 (jshl 1 v7)) (v3 + 1))))))))
def f_X5_tracksAt_L4 (fu : Nat) (stf : Int → Int) (x1 : Int) (k4_ : Int → Option (Int)) : Nat → Int → Int → Option (Int)
  | 0 => fun _ _ => none
  | n + 1 => f_X5_tracksAt_L4_b fu stf x1 k4_ (f_X5_tracksAt_L4 fu stf x1 k4_ n)
def f_X5_tracksAt (fu : Nat) (stf : Int → Int) (x1 : Int) : Option (Int) :=
  f_X5_tracksAt_L4 fu stf x1 (f_X5_tracksAt_X54 fu) fu 0 0
def f_X5_at (fu : Nat) (ho : Int → Int) (eh : Int → Int) (stf : Int → Int) (x1 : Int) (x2 : Int) : Option (Int × (Int → Int) × (Int → Int)) :=
  jb (f_X5_isStep fu x1) (fun v1 => jck v1 0 (if v1 ≠ 0 then jb2 (f_X5_findHeard fu ho eh stf) (fun ho_m2 eh_m3 => jck x2 0 (if x2 = 0 then jix 100 x1 (some ((ho_m2 x1), ho_m2, eh_m3)) else if x2 = 1 then jix 100 x1 (some ((eh_m3 x1), ho_m2, eh_m3)) else if x2 = 2 then jb (f_X5_tracksAt fu stf x1) (fun v4 => some (v4, ho_m2, eh_m3)) else if x2 = 3 then jix 100 x1 (jb (f_X5_sideBySide fu (ho_m2 x1)) (fun v5 => some (v5, ho_m2, eh_m3))) else if x2 = 4 then jb (f_X5_isWeak fu ho_m2 stf x1) (fun v6 => jck v6 0 (if v6 = 0 then some (0, ho_m2, eh_m3) else some (1, ho_m2, eh_m3))) else some ((-2), ho_m2, eh_m3))) else some ((-2), ho, eh)))
def f_X5_notesIn_X66 (fu : Nat)  (v1 : Int) : Option (Int) :=
  some v1
def f_X5_notesIn_L6_b (fu : Nat) (stf : Int → Int) (x1 : Int) (x2 : Int) (x3 : Int) (k6_ : Int → Option (Int)) (j6_ : Int → Int → Option (Int)) (v2 : Int) (v3 : Int) : Option (Int) :=
  jix 205 4 (jck v3 (stf 4) (if (stf 4) ≤ v3 then k6_ v2 else jb (f_X5_part fu stf v3 0) (fun v4 => jck v4 x1 (if v4 ≠ x1 then j6_ (v2 + 0) (v3 + 1) else jb (f_X5_part fu stf v3 1) (fun v5 => jck v5 x3 (if x3 < v5 then j6_ (v2 + 0) (v3 + 1) else jb (f_X5_part fu stf v3 2) (fun v6 => jck v6 x2 (if v6 < x2 then j6_ (v2 + 0) (v3 + 1) else j6_ (v2 + 1) (v3 + 1)))))))))
def f_X5_notesIn_L6 (fu : Nat) (stf : Int → Int) (x1 : Int) (x2 : Int) (x3 : Int) (k6_ : Int → Option (Int)) : Nat → Int → Int → Option (Int)
  | 0 => fun _ _ => none
  | n + 1 => f_X5_notesIn_L6_b fu stf x1 x2 x3 k6_ (f_X5_notesIn_L6 fu stf x1 x2 x3 k6_ n)
def f_X5_notesIn (fu : Nat) (stf : Int → Int) (x1 : Int) (x2 : Int) (x3 : Int) : Option (Int) :=
  f_X5_notesIn_L6 fu stf x1 x2 x3 (f_X5_notesIn_X66 fu) fu 0 0
def f_X5_sound (fu : Nat) (ho : Int → Int) (eh : Int → Int) (stf : Int → Int) (x1 : Int) (x2 : Int) (x3 : Int) : Option (Int × (Int → Int) × (Int → Int)) :=
  jb (f_X5_isTrack fu x1) (fun v1 => jck v1 0 (if v1 = 0 then some ((-1), ho, eh) else jck x2 0 (if 0 ≤ x2 then jb2 (f_X5_findHeard fu ho eh stf) (fun ho_m2 eh_m3 => jb (f_X5_beginOf fu eh_m3 x1 x2) (fun v4 => jck v4 (-6) (if v4 ≠ (-6) then jb (f_X5_endOf fu eh_m3 x1 v4) (fun v5 => jck x3 0 (if x3 ≠ 0 then jck x3 1 (if x3 ≠ 1 then jck x3 2 (if x3 ≠ 2 then some ((-2), ho_m2, eh_m3) else jb (f_X5_notesIn fu stf x1 v4 v5) (fun v6 => some (v6, ho_m2, eh_m3))) else some (v5, ho_m2, eh_m3)) else some (v4, ho_m2, eh_m3))) else some ((-1), ho_m2, eh_m3)))) else some ((-1), ho, eh))))
def f_X5_greatestLast_X42 (fu : Nat)  (v1 : Int) : Option (Int) :=
  some v1
def f_X5_greatestLast_L5_b (fu : Nat) (stf : Int → Int) (k5_ : Int → Option (Int)) (j5_ : Int → Int → Option (Int)) (v2 : Int) (v3 : Int) : Option (Int) :=
  jix 205 4 (jck v3 (stf 4) (if (stf 4) ≤ v3 then k5_ v2 else jb (f_X5_part fu stf v3 2) (fun v4 => jck v4 v2 (if v4 ≤ v2 then j5_ v2 (v3 + 1) else jb (f_X5_part fu stf v3 2) (fun v5 => j5_ v5 (v3 + 1))))))
def f_X5_greatestLast_L5 (fu : Nat) (stf : Int → Int) (k5_ : Int → Option (Int)) : Nat → Int → Int → Option (Int)
  | 0 => fun _ _ => none
  | n + 1 => f_X5_greatestLast_L5_b fu stf k5_ (f_X5_greatestLast_L5 fu stf k5_ n)
def f_X5_greatestLast (fu : Nat) (stf : Int → Int) : Option (Int) :=
  f_X5_greatestLast_L5 fu stf (f_X5_greatestLast_X42 fu) fu (-6) 0
def f_X5_count (fu : Nat) (rc : Int) (pn : Int) (ho : Int → Int) (eh : Int → Int) (stf : Int → Int) (x1 : Int) : Option (Int × (Int → Int) × (Int → Int)) :=
  jck x1 0 (if x1 = 0 then jix 205 4 (some ((stf 4), ho, eh)) else if x1 = 1 then jb2 (f_X5_allHoles fu ho stf) (fun v1 ho_m2 => some (v1, ho_m2, eh)) else if x1 = 2 then jb2 (f_X5_weakMany fu ho stf) (fun v3 ho_m4 => some (v3, ho_m4, eh)) else if x1 = 3 then jb2 (f_X5_firstWeak fu ho stf) (fun v5 ho_m6 => some (v5, ho_m6, eh)) else if x1 = 4 then jb3 (f_X5_soundsMany fu ho eh stf) (fun v7 ho_m8 eh_m9 => some (v7, ho_m8, eh_m9)) else if x1 = 5 then jb3 (f_X5_withGap fu ho eh stf) (fun v10 ho_m11 eh_m12 => some (v10, ho_m11, eh_m12)) else if x1 = 6 then jb (f_X5_greatestLast fu stf) (fun v13 => some (v13, ho, eh)) else if x1 = 7 then jix 205 (x1 - 7) (some ((stf (x1 - 7)), ho, eh)) else if x1 = 8 then jix 205 (x1 - 7) (some ((stf (x1 - 7)), ho, eh)) else if x1 = 9 then jix 205 (x1 - 7) (some ((stf (x1 - 7)), ho, eh)) else if x1 = 10 then jix 205 (x1 - 7) (some ((stf (x1 - 7)), ho, eh)) else if x1 = 11 then some (pn, ho, eh) else if x1 = 12 then some (rc, ho, eh) else some ((-2), ho, eh))
def f_X5_bestShift_J17 (fu : Nat) (ho : Int → Int) (stf : Int → Int) (x1 : Int)  : Option (Int × (Int → Int) × (Int → Int)) :=
  jb (f_X5_isNote fu stf x1) (fun v2 => jck v2 0 (if v2 = 0 then some ((-1), ho, stf) else some ((-2), ho, stf)))
def f_X5_bestShift_X109 (fu : Nat) (x1 : Int) (x2 : Int) (v4 : Int) (ho_m5 : Int → Int) (stf_m6 : Int → Int) (v7 : Int) (v8 : Int) : Option (Int × (Int → Int) × (Int → Int)) :=
  jb (f_X5_setPart fu stf_m6 x1 3 v4) (fun stf_m9 => jck x2 0 (if x2 ≠ 0 then some (v8, ho_m5, stf_m9) else some (v7, ho_m5, stf_m9)))
def f_X5_bestShift_J85 (fu : Nat) (v13 : Int) (v14 : Int) (stf_m15 : Int → Int) (v16 : Int) (ho_m17 : Int → Int) (j50_ : (Int → Int) → (Int → Int) → Int → Int → Int → Option (Int × (Int → Int) × (Int → Int))) (v18 : Int) : Option (Int × (Int → Int) × (Int → Int)) :=
  jck v16 v13 (if v13 ≤ v16 then j50_ ho_m17 stf_m15 v18 v13 (v14 + 1) else j50_ ho_m17 stf_m15 v18 v16 (v14 + 1))
def f_X5_bestShift_L50_b (fu : Nat) (x1 : Int) (k50_ : (Int → Int) → (Int → Int) → Int → Int → Option (Int × (Int → Int) × (Int → Int))) (j50_ : (Int → Int) → (Int → Int) → Int → Int → Int → Option (Int × (Int → Int) × (Int → Int))) (ho_m10 : Int → Int) (stf_m11 : Int → Int) (v12 : Int) (v13 : Int) (v14 : Int) : Option (Int × (Int → Int) × (Int → Int)) :=
  jck v14 12 (if 12 < v14 then k50_ ho_m10 stf_m11 v12 v13 else jb (f_X5_setPart fu stf_m11 x1 3 v14) (fun stf_m15 => jb2 (f_X5_weakMany fu ho_m10 stf_m15) (fun v16 ho_m17 => jck v16 v13 (if v13 ≤ v16 then f_X5_bestShift_J85 fu v13 v14 stf_m15 v16 ho_m17 j50_ v12 else f_X5_bestShift_J85 fu v13 v14 stf_m15 v16 ho_m17 j50_ v14))))
def f_X5_bestShift_L50 (fu : Nat) (x1 : Int) (k50_ : (Int → Int) → (Int → Int) → Int → Int → Option (Int × (Int → Int) × (Int → Int))) : Nat → (Int → Int) → (Int → Int) → Int → Int → Int → Option (Int × (Int → Int) × (Int → Int))
  | 0 => fun _ _ _ _ _ => none
  | n + 1 => f_X5_bestShift_L50_b fu x1 k50_ (f_X5_bestShift_L50 fu x1 k50_ n)
def f_X5_bestShift (fu : Nat) (ho : Int → Int) (stf : Int → Int) (x1 : Int) (x2 : Int) : Option (Int × (Int → Int) × (Int → Int)) :=
  jb (f_X5_isNote fu stf x1) (fun v1 => jck v1 0 (if v1 = 0 then f_X5_bestShift_J17 fu ho stf x1 else jb (f_X5_within fu x2 0 1) (fun v3 => jck v3 0 (if v3 ≠ 0 then jb (f_X5_part fu stf x1 3) (fun v4 => f_X5_bestShift_L50 fu x1 (f_X5_bestShift_X109 fu x1 x2 v4) fu ho stf (-6) 101 0) else f_X5_bestShift_J17 fu ho stf x1))))
def f_X5_greatestRun_X44 (fu : Nat)  (ho_m1 : Int → Int) (stf_m2 : Int → Int) (v3 : Int) (v4 : Int) : Option (Int × (Int → Int) × (Int → Int)) :=
  jix 205 0 (some (v4, ho_m1, (uI stf_m2 0 v3)))
def f_X5_greatestRun_L12_b (fu : Nat) (k12_ : (Int → Int) → (Int → Int) → Int → Int → Option (Int × (Int → Int) × (Int → Int))) (j12_ : (Int → Int) → (Int → Int) → Int → Int → Int → Option (Int × (Int → Int) × (Int → Int))) (ho_m5 : Int → Int) (stf_m6 : Int → Int) (v7 : Int) (v8 : Int) (v9 : Int) : Option (Int × (Int → Int) × (Int → Int)) :=
  jck v9 9 (if 9 < v9 then k12_ ho_m5 stf_m6 v7 v8 else jix 205 0 (jb2 (f_X5_weakMany fu ho_m5 (uI stf_m6 0 v9)) (fun v10 ho_m11 => jck v10 0 (if v10 ≠ 0 then j12_ ho_m11 (uI stf_m6 0 v9) v7 v8 (v9 + 1) else j12_ ho_m11 (uI stf_m6 0 v9) v7 v9 (v9 + 1)))))
def f_X5_greatestRun_L12 (fu : Nat) (k12_ : (Int → Int) → (Int → Int) → Int → Int → Option (Int × (Int → Int) × (Int → Int))) : Nat → (Int → Int) → (Int → Int) → Int → Int → Int → Option (Int × (Int → Int) × (Int → Int))
  | 0 => fun _ _ _ _ _ => none
  | n + 1 => f_X5_greatestRun_L12_b fu k12_ (f_X5_greatestRun_L12 fu k12_ n)
def f_X5_greatestRun (fu : Nat) (ho : Int → Int) (stf : Int → Int) : Option (Int × (Int → Int) × (Int → Int)) :=
  jix 205 0 (f_X5_greatestRun_L12 fu (f_X5_greatestRun_X44 fu) fu ho stf (stf 0) (-6) 1)
def f_X5_swallowed_X65 (fu : Nat) (ho_m2 : Int → Int) (eh_m3 : Int → Int) (v4 : Int) : Option (Int × (Int → Int) × (Int → Int)) :=
  some (v4, ho_m2, eh_m3)
def f_X5_swallowed_L17_b (fu : Nat) (stf : Int → Int) (x1 : Int) (eh_m3 : Int → Int) (k17_ : Int → Option (Int × (Int → Int) × (Int → Int))) (j17_ : Int → Int → Option (Int × (Int → Int) × (Int → Int))) (v5 : Int) (v6 : Int) : Option (Int × (Int → Int) × (Int → Int)) :=
  jix 205 4 (jck v6 (stf 4) (if (stf 4) ≤ v6 then k17_ v5 else jb (f_X5_part fu stf v6 0) (fun v7 => jck v7 x1 (if v7 ≠ x1 then j17_ (v5 + 0) (v6 + 1) else jb (f_X5_part fu stf v6 1) (fun v8 => jb (f_X5_begins fu eh_m3 x1 v8) (fun v9 => jck v9 0 (if v9 ≠ 0 then j17_ (v5 + 0) (v6 + 1) else j17_ (v5 + 1) (v6 + 1))))))))
def f_X5_swallowed_L17 (fu : Nat) (stf : Int → Int) (x1 : Int) (eh_m3 : Int → Int) (k17_ : Int → Option (Int × (Int → Int) × (Int → Int))) : Nat → Int → Int → Option (Int × (Int → Int) × (Int → Int))
  | 0 => fun _ _ => none
  | n + 1 => f_X5_swallowed_L17_b fu stf x1 eh_m3 k17_ (f_X5_swallowed_L17 fu stf x1 eh_m3 k17_ n)
def f_X5_swallowed (fu : Nat) (ho : Int → Int) (eh : Int → Int) (stf : Int → Int) (x1 : Int) : Option (Int × (Int → Int) × (Int → Int)) :=
  jb (f_X5_isTrack fu x1) (fun v1 => jck v1 0 (if v1 ≠ 0 then jb2 (f_X5_findHeard fu ho eh stf) (fun ho_m2 eh_m3 => f_X5_swallowed_L17 fu stf x1 eh_m3 (f_X5_swallowed_X65 fu ho_m2 eh_m3) fu 0 0) else some ((-1), ho, eh)))
def f_X5_freeGoal_X49 (fu : Nat)   : Option (Int) :=
  some (-6)
def f_X5_freeGoal_L25_b (fu : Nat) (stf : Int → Int) (x1 : Int) (x2 : Int) (k25_ : Option (Int)) (j25_ : Int → Option (Int)) (v3 : Int) : Option (Int) :=
  jck v3 100 (if 100 ≤ v3 then k25_ else jb (f_X5_whyNotCopied fu stf x1 x2 v3) (fun v4 => jck v4 0 (if v4 ≠ 0 then j25_ (v3 + 1) else some v3)))
def f_X5_freeGoal_L25 (fu : Nat) (stf : Int → Int) (x1 : Int) (x2 : Int) (k25_ : Option (Int)) : Nat → Int → Option (Int)
  | 0 => fun _ => none
  | n + 1 => f_X5_freeGoal_L25_b fu stf x1 x2 k25_ (f_X5_freeGoal_L25 fu stf x1 x2 k25_ n)
def f_X5_freeGoal (fu : Nat) (stf : Int → Int) (x1 : Int) (x2 : Int) : Option (Int) :=
  jb (f_X5_isPassage fu x1 x2) (fun v1 => jck v1 0 (if v1 ≠ 0 then jb (f_X5_betweenMany fu stf x1 x2) (fun v2 => jck v2 0 (if v2 ≠ 0 then f_X5_freeGoal_L25 fu stf x1 x2 (f_X5_freeGoal_X49 fu) fu 0 else some (-6))) else some (-2)))
def f_X5_put_X147 (fu : Nat)  (pd_m4 : Int → Int) (pn_m5 : Int) : Option (Int × (Int → Int) × Int) :=
  some (pn_m5, pd_m4, pn_m5)
def f_X5_put_L105_b (fu : Nat) (w1 : Int64) (k105_ : (Int → Int) → Int → Option (Int × (Int → Int) × Int)) (j105_ : (Int → Int) → Int → Int → Option (Int × (Int → Int) × Int)) (pd_m6 : Int → Int) (pn_m7 : Int) (v8 : Int) : Option (Int × (Int → Int) × Int) :=
  jck v8 0 (if v8 < 0 then k105_ pd_m6 pn_m7 else jix 60 pn_m7 (j105_ (uI pd_m6 pn_m7 (jl2i ((jlushr w1 (8 * v8)) &&& 255))) (pn_m7 + 1) (v8 + (-1))))
def f_X5_put_L105 (fu : Nat) (w1 : Int64) (k105_ : (Int → Int) → Int → Option (Int × (Int → Int) × Int)) : Nat → (Int → Int) → Int → Int → Option (Int × (Int → Int) × Int)
  | 0 => fun _ _ _ => none
  | n + 1 => f_X5_put_L105_b fu w1 k105_ (f_X5_put_L105 fu w1 k105_ n)
def f_X5_put_X67 (fu : Nat) (pd : Int → Int) (pn : Int) (w1 : Int64) (v1 : Int) (w2 : Int64) (v3 : Int) : Option (Int × (Int → Int) × Int) :=
  jck v1 0 (if v1 = 0 then some ((-2), pd, pn) else jck v3 0 (if v3 = 0 then some ((-2), pd, pn) else jck (jlcmp w2 0) 0 (if (jlcmp w2 0) = 0 then jck (pn + v1) 60 (if (pn + v1) ≤ 60 then f_X5_put_L105 fu w1 (f_X5_put_X147 fu) fu pd pn (v1 - 1) else some ((-4), pd, pn)) else some ((-2), pd, pn))))
def f_X5_put_J52 (fu : Nat) (v9 : Int) (w10 : Int64) (j8_ : Int → Int64 → Int → Option (Int × (Int → Int) × Int)) (v12 : Int) : Option (Int × (Int → Int) × Int) :=
  j8_ (v9 + 1) (jlushr w10 8) v12
def f_X5_put_J51 (fu : Nat) (v9 : Int) (w10 : Int64) (j8_ : Int → Int64 → Int → Option (Int × (Int → Int) × Int))  : Option (Int × (Int → Int) × Int) :=
  f_X5_put_J52 fu v9 w10 j8_ 0
def f_X5_put_L8_b (fu : Nat) (k8_ : Int → Int64 → Int → Option (Int × (Int → Int) × Int)) (j8_ : Int → Int64 → Int → Option (Int × (Int → Int) × Int)) (v9 : Int) (w10 : Int64) (v11 : Int) : Option (Int × (Int → Int) × Int) :=
  jck v9 8 (if 8 ≤ v9 then k8_ v9 w10 v11 else jck (jlcmp (w10 &&& 255) 0) 0 (if (jlcmp (w10 &&& 255) 0) = 0 then k8_ v9 w10 v11 else jck v11 0 (if v11 = 0 then f_X5_put_J51 fu v9 w10 j8_ else jb (f_X5_within fu (jl2i (w10 &&& 255)) 33 126) (fun v13 => jck v13 0 (if v13 = 0 then f_X5_put_J51 fu v9 w10 j8_ else f_X5_put_J52 fu v9 w10 j8_ 1)))))
def f_X5_put_L8 (fu : Nat) (k8_ : Int → Int64 → Int → Option (Int × (Int → Int) × Int)) : Nat → Int → Int64 → Int → Option (Int × (Int → Int) × Int)
  | 0 => fun _ _ _ => none
  | n + 1 => f_X5_put_L8_b fu k8_ (f_X5_put_L8 fu k8_ n)
def f_X5_put (fu : Nat) (pd : Int → Int) (pn : Int) (w1 : Int64) : Option (Int × (Int → Int) × Int) :=
  f_X5_put_L8 fu (f_X5_put_X67 fu pd pn w1) fu 0 w1 1
def f_X5_wipe (fu : Nat) (pn : Int) : Option (Int × Int) :=
  some (pn, 0)
def f_X5_fault (fu : Nat) (pd : Int → Int) (pn : Int) (at_ : Int) (tk : Int) (fs : Int) (lt : Int) (ea : Int) : Option (Int × Int × Int × Int × Int × Int) :=
  jb6 (f_X5_findFault fu pd pn at_ tk fs lt ea) (fun v1 at__m2 tk_m3 fs_m4 lt_m5 ea_m6 => some (v1, at__m2, tk_m3, fs_m4, lt_m5, ea_m6))
def f_X5_undo (fu : Nat) (rc : Int) (stf : Int → Int) (hsf : Int → Int) : Option (Int × Int × (Int → Int)) :=
  jck rc 0 (if rc ≠ 0 then jb (f_X5_moves fu 1230 205 hsf stf ((rc - 1) * 205) 0) (fun q2f_m1 => some ((rc - 1), (rc - 1), q2f_m1)) else some ((-5), rc, stf))
def f_X5_save (fu : Nat) (is_ : Int → Int) (stf : Int → Int) (slf : Int → Int) (x1 : Int) : Option (Int × (Int → Int) × (Int → Int)) :=
  jb (f_X5_within fu x1 0 1) (fun v1 => jck v1 0 (if v1 ≠ 0 then jb (f_X5_moves fu 205 410 stf slf 0 (205 * x1)) (fun q2f_m2 => jix 2 x1 (jix 205 4 (some ((stf 4), (uI is_ x1 1), q2f_m2)))) else some ((-2), is_, slf)))
def f_X5_restore (fu : Nat) (rc : Int) (is_ : Int → Int) (stf : Int → Int) (hsf : Int → Int) (slf : Int → Int) (x1 : Int) : Option (Int × Int × (Int → Int) × (Int → Int)) :=
  jb (f_X5_within fu x1 0 1) (fun v1 => jck v1 0 (if v1 ≠ 0 then jix 2 x1 (jck (is_ x1) 0 (if (is_ x1) ≠ 0 then jb2 (f_X5_record fu rc stf hsf) (fun rc_m2 hsf_m3 => jb (f_X5_moves fu 410 205 slf stf (205 * x1) 0) (fun q2f_m4 => jix 205 4 (some ((q2f_m4 4), rc_m2, q2f_m4, hsf_m3)))) else some ((-5), rc, stf, hsf))) else some ((-2), rc, stf, hsf)))
