/-! rules -/
def zb0 (T : zS) (v : Int32) (i : Nat) : Bool := decide (T.1 38 i = -1) || !bt v (T.1 38 i).toNatClampNeg
def zb1 (T : zS) (v : Int32) (i : Nat) : Bool := !bt v (T.1 39 i).toNatClampNeg
def zb2 (T : zS) (v : Int32) (i : Nat) : Bool := zany (fun k => !bt v (T.1 32 (us T (6 * i + k))).toNatClampNeg) (uc T i) 0
def zb3 (T : zS) (v : Int32) (i : Nat) : Bool := zany (fun k => decide (zbc (T.1 33 (us T (6 * i + k)) &&& (zshl 1 (T.1 40 i) ^^^ (-1))) < v)) (uc T i) 0
def zb4 (T : zS) (i : Nat) : Bool := zany (fun k => !decide (T.1 34 (us T (6 * i + k)) = 0)) (uc T i) 0
def zlt (T : zS) (v : Int32) (i : Nat) : Option Nat → Bool
  | none => false
  | some m => decide (v < T.1 41 m - T.1 41 i)
def zb6 (T : zS) (v : Int32) (i : Nat) : Bool := zany (fun k => zlt T v i (mt T (T.2 36 (6 * i + k)))) (nc T i) 0
def zb8 (T : zS) (i : Nat) : Bool := decide (uc T i = 0) && decide (nc T i = 0)
def zbrk (T : zS) (i r : Nat) : Bool := match (T.1 46 r).toNatClampNeg with
  | 0 => zb0 T (T.1 47 r) i
  | 1 => zb1 T (T.1 47 r) i
  | 2 => zb2 T (T.1 47 r) i
  | 3 => zb3 T (T.1 47 r) i
  | 4 => zb4 T i
  | 5 => zany (zmis T i) (nc T i) 0
  | 6 => zb6 T (T.1 47 r) i
  | 7 => zany (zcsh T i) (za T) 0
  | 8 => zb8 T i
  | _ => decide (T.1 47 r < nI (clo T i).length)
theorem A_usedAt {σ T : zS} (hI : zIv T) (hR : zRC σ T) {i k : Nat} (hi : i < 32) (hk : k < uc T i) : fn_A_usedAt (nI i) (nI k) σ = some (nI (us T (6 * i + k)), σ) := by
  obtain ⟨r1, r2, r3, r4, r5, r6, r7, r8, r9, r10, r11, r12, r13, r14, r15, r16, r17, r18, r19, r20, r21, r22, r23, r24⟩ := id hR
  have h6 : uc T i ≤ 6 := (hI.2.1 i hi).2.1
  unfold fn_A_usedAt fn_W_valueAt_u
  rw [nI6', zgd_t (zin_n (show 6 * i + k < 192 by omega) (by omega)), nIc (show 6 * i + k ≤ 5000 by omega), zb_s, r14]
  have e : (T.1 43 (6 * i + k)).toInt64.toInt32 = T.1 43 (6 * i + k) := by simp
  rw [e, (hI.2.2.1 i k hi hk).1]
theorem oS_any (P : Nat → Bool) : ∀ m k : Nat, k + m ≤ 5000 → ((oS (zithr P m k 0) = -1) ↔ zany P m k = false)
  | 0, k, _ => ⟨fun _ => rfl, fun _ => rfl⟩
  | m + 1, k, hb => by
    unfold zithr zany
    cases P k with
    | false => exact oS_any P m (k + 1) (by omega)
    | true => exact ⟨fun e => absurd e (nIm1 (by omega)), fun e => by cases e⟩
theorem P_usesBranchOutside {σ T : zS} (hI : zIv T) (hR : zRC σ T) {i : Nat} (hi : i < 32) (v : Int32) : fn_P_usesBranchOutside (nI i) v σ = some (bi (zb2 T v i), σ) := by
  obtain ⟨r1, r2, r3, r4, r5, r6, r7, r8, r9, r10, r11, r12, r13, r14, r15, r16, r17, r18, r19, r20, r21, r22, r23, r24⟩ := id hR
  have e1 : σ.1 13 i = nI (uc T i) := by rw [r13]; exact (hI.2.1 i hi).1
  have hc : uc T i ≤ 6 := (hI.2.1 i hi).2.1
  refine zl_anyf (fun n k => fn_P_usesBranchOutside_2 n (nI i) v (nI k) σ) (uc T i) (fun k => !bt v (T.1 32 (us T (6 * i + k))).toNatClampNeg) (fun n k hk => ?_) 100 (by omega)
  show fn_P_usesBranchOutside_2 (n + 1) (nI i) v (nI k) σ = _
  rw [fn_P_usesBranchOutside_2, zgd_t (zin_n hi (by omega)), nIc (show i ≤ 5000 by omega), e1]
  by_cases hkc : k < uc T i
  · have hu := (hI.2.2.1 i k hi hkc).2
    have hn24 : zn T ≤ 24 := hI.1.2.1
    rw [if_pos ((nIk hk (by omega)).mpr hkc), if_pos hkc, A_usedAt hI hR hi hkc, zb_s, zgd_t (zin_n (show us T (6 * i + k) < 24 by omega) (by omega)), nIc (show us T (6 * i + k) ≤ 5000 by omega), nI_1]
    obtain ⟨b, hb, eb⟩ := (hI.2.2.2.2.1 (us T (6 * i + k)) (by omega)).1
    rw [r5, eb, nIc (show b ≤ 5000 by omega), P_hasBit v (show b < 32 by omega), zb_s]
    cases bt v b with
    | false => rw [if_pos bi_f0]; rfl
    | true => rw [if_neg bi_t0]; rfl
  · rw [if_neg (fun q => hkc ((nIk hk (by omega)).mp q)), if_neg hkc]
theorem P_usesReviewedBelow {σ T : zS} (hI : zIv T) (hR : zRC σ T) {i : Nat} (hi : i < 32) (v : Int32) : fn_P_usesReviewedBelow (nI i) v σ = some (bi (zb3 T v i), σ) := by
  obtain ⟨r1, r2, r3, r4, r5, r6, r7, r8, r9, r10, r11, r12, r13, r14, r15, r16, r17, r18, r19, r20, r21, r22, r23, r24⟩ := id hR
  have e1 : σ.1 13 i = nI (uc T i) := by rw [r13]; exact (hI.2.1 i hi).1
  have hc : uc T i ≤ 6 := (hI.2.1 i hi).2.1
  unfold fn_P_usesReviewedBelow
  rw [zgd_t (zin_n hi (by omega)), nIc (show i ≤ 5000 by omega), r11]
  refine zl_anyf (fun n k => fn_P_usesReviewedBelow_17 n (nI i) v (zshl 1 (T.1 40 i) ^^^ (-1)) (nI k) σ) (uc T i) (fun k => decide (zbc (T.1 33 (us T (6 * i + k)) &&& (zshl 1 (T.1 40 i) ^^^ (-1))) < v)) (fun n k hk => ?_) 100 (by omega)
  show fn_P_usesReviewedBelow_17 (n + 1) (nI i) v (zshl 1 (T.1 40 i) ^^^ (-1)) (nI k) σ = _
  rw [fn_P_usesReviewedBelow_17, zgd_t (zin_n hi (by omega)), nIc (show i ≤ 5000 by omega), e1]
  by_cases hkc : k < uc T i
  · have hu := (hI.2.2.1 i k hi hkc).2
    have hn24 : zn T ≤ 24 := hI.1.2.1
    rw [if_pos ((nIk hk (by omega)).mpr hkc), if_pos hkc, A_usedAt hI hR hi hkc, zb_s, zgd_t (zin_n (show us T (6 * i + k) < 24 by omega) (by omega)), nIc (show us T (6 * i + k) ≤ 5000 by omega), nI_1]
    rw [Ig_bitCount, zb_s, r6]
    by_cases hp : zbc (T.1 33 (us T (6 * i + k)) &&& (zshl 1 (T.1 40 i) ^^^ (-1))) < v
    · rw [if_pos hp, decide_eq_true hp]; rfl
    · rw [if_neg hp, decide_eq_false hp]; rfl
  · rw [if_neg (fun q => hkc ((nIk hk (by omega)).mp q)), if_neg hkc]
theorem P_usesFetchedUntold {σ T : zS} (hI : zIv T) (hR : zRC σ T) {i : Nat} (hi : i < 32) : fn_P_usesFetchedUntold (nI i) σ = some (bi (zb4 T i), σ) := by
  obtain ⟨r1, r2, r3, r4, r5, r6, r7, r8, r9, r10, r11, r12, r13, r14, r15, r16, r17, r18, r19, r20, r21, r22, r23, r24⟩ := id hR
  have e1 : σ.1 13 i = nI (uc T i) := by rw [r13]; exact (hI.2.1 i hi).1
  have hc : uc T i ≤ 6 := (hI.2.1 i hi).2.1
  refine zl_anyf (fun n k => fn_P_usesFetchedUntold_2 n (nI i) (nI k) σ) (uc T i) (fun k => !decide (T.1 34 (us T (6 * i + k)) = 0)) (fun n k hk => ?_) 100 (by omega)
  show fn_P_usesFetchedUntold_2 (n + 1) (nI i) (nI k) σ = _
  rw [fn_P_usesFetchedUntold_2, zgd_t (zin_n hi (by omega)), nIc (show i ≤ 5000 by omega), e1]
  by_cases hkc : k < uc T i
  · have hu := (hI.2.2.1 i k hi hkc).2
    have hn24 : zn T ≤ 24 := hI.1.2.1
    rw [if_pos ((nIk hk (by omega)).mpr hkc), if_pos hkc, A_usedAt hI hR hi hkc, zb_s, zgd_t (zin_n (show us T (6 * i + k) < 24 by omega) (by omega)), nIc (show us T (6 * i + k) ≤ 5000 by omega), nI_1]
    rw [r7]
    by_cases hp : T.1 34 (us T (6 * i + k)) = 0
    · rw [if_pos hp, decide_eq_true hp]; rfl
    · rw [if_neg hp, decide_eq_false hp]; rfl
  · rw [if_neg (fun q => hkc ((nIk hk (by omega)).mp q)), if_neg hkc]
theorem A_later {σ T : zS} (hI : zIv T) (hR : zRC σ T) {i : Nat} (hi : i < za T) (v : Int32) : fn_A_needsLaterBy (nI i) v σ = some (bi (zb6 T v i), σ) := by
  obtain ⟨r1, r2, r3, r4, r5, r6, r7, r8, r9, r10, r11, r12, r13, r14, r15, r16, r17, r18, r19, r20, r21, r22, r23, r24⟩ := id hR
  have ha : za T ≤ 32 := hI.1.2.2.2.1
  have e1 : σ.1 16 i = nI (nc T i) := by rw [r15]; exact (hI.2.1 i (by omega)).2.2.1
  have hc : nc T i ≤ 6 := (hI.2.1 i (by omega)).2.2.2.1
  refine zl_anyf (fun n k => fn_A_needsLaterBy_2 n (nI i) v (nI k) σ) (nc T i) (fun k => zlt T v i (mt T (T.2 36 (6 * i + k)))) (fun n k hk => ?_) 100 (by omega)
  show fn_A_needsLaterBy_2 (n + 1) (nI i) v (nI k) σ = _
  rw [fn_A_needsLaterBy_2, zgd_t (zin_n (show i < 32 by omega) (by omega)), nIc (show i ≤ 5000 by omega), e1]
  by_cases hkc : k < nc T i
  · rw [if_pos ((nIk hk (by omega)).mpr hkc), if_pos hkc]
    unfold fn_A_metByAt
    rw [nI6', zgd_t (zin_n (show 6 * i + k < 192 by omega) (by omega)), nIc (show 6 * i + k ≤ 5000 by omega), zb_s, nI_1, r24 i k hi hkc]
    cases hm : mt T (T.2 36 (6 * i + k)) with
    | none => rw [if_pos (show oI none = -1 from rfl)]; rfl
    | some m =>
      have hm2 := mt_lt hm
      have hne : ¬ oI (some m) = -1 := nIm1 (by omega)
      rw [if_neg hne]
      show zgd (zin (nI m) 32) (zgd (zin (nI i) 32) (if v < σ.1 11 (nI m).toNatClampNeg - σ.1 11 i then some (1, σ) else fn_A_needsLaterBy_2 n (nI i) v (nI (k + 1)) σ)) = bif decide (v < T.1 41 m - T.1 41 i) then some (1, σ) else fn_A_needsLaterBy_2 n (nI i) v (nI (k + 1)) σ
      rw [zgd_t (zin_n (show m < 32 by omega) (by omega)), zgd_t (zin_n (show i < 32 by omega) (by omega)), nIc (show m ≤ 5000 by omega), r12]
      by_cases hp : v < T.1 41 m - T.1 41 i
      · rw [if_pos hp, decide_eq_true hp]; rfl
      · rw [if_neg hp, decide_eq_false hp]; rfl
  · rw [if_neg (fun q => hkc ((nIk hk (by omega)).mp q)), if_neg hkc]
theorem A_rests {σ T : zS} (hI : zIv T) (hR : zRC σ T) {i : Nat} (hi : i < 32) : fn_A_restsOnNothing (nI i) σ = some (bi (zb8 T i), σ) := by
  obtain ⟨r1, r2, r3, r4, r5, r6, r7, r8, r9, r10, r11, r12, r13, r14, r15, r16, r17, r18, r19, r20, r21, r22, r23, r24⟩ := id hR
  have e1 : σ.1 13 i = nI (uc T i) := by rw [r13]; exact (hI.2.1 i hi).1
  have e2 : σ.1 16 i = nI (nc T i) := by rw [r15]; exact (hI.2.1 i hi).2.2.1
  have c1 : uc T i ≤ 6 := (hI.2.1 i hi).2.1
  have c2 : nc T i ≤ 6 := (hI.2.1 i hi).2.2.2.1
  unfold fn_A_restsOnNothing zb8
  rw [zgd_t (zin_n hi (by omega)), zgd_t (zin_n hi (by omega)), nIc (show i ≤ 5000 by omega), e1, e2]
  by_cases h1 : uc T i = 0
  · rw [if_pos (show nI (uc T i) = 0 by rw [h1]; rfl), decide_eq_true h1, Bool.true_and]
    by_cases h2 : nc T i = 0
    · rw [if_pos (show nI (nc T i) = 0 by rw [h2]; rfl), decide_eq_true h2]; rfl
    · rw [if_neg (nI_ne0 (by omega) (by omega)), decide_eq_false h2]; rfl
  · rw [if_neg (nI_ne0 (by omega) (by omega)), decide_eq_false h1]; rfl
theorem FR_c_of (σ : zS) : FR_c σ σ := FR_c.rf σ
theorem kd_ne {k j : Nat} (hk : k ≤ 9) (hj : j ≤ 9) (h : k ≠ j) : ¬ nI k = nI j := fun e => h ((nIeq (by omega) (by omega)).mp e)
theorem P_isBroken {σ T : zS} (hI : zIv T) (hR : zRC σ T) {i r : Nat} (hi : i < za T) (hr : r < 16) : ∃ σ', fn_P_isBroken (nI r) (nI i) σ = some (bi (zbrk T i r), σ') ∧ FR_c σ σ' := by
  obtain ⟨r1, r2, r3, r4, r5, r6, r7, r8, r9, r10, r11, r12, r13, r14, r15, r16, r17, r18, r19, r20, r21, r22, r23, r24⟩ := id hR
  have ha : za T ≤ 32 := hI.1.2.2.2.1
  obtain ⟨kd, hkd, ekd⟩ := hI.2.2.2.2.2.1 r hr
  obtain ⟨hb0, ⟨b1, hb1, eb1⟩, -⟩ := hI.2.2.2.1 i (by omega)
  unfold fn_P_isBroken zbrk
  rw [zgd_t (zin_n hr (by omega)), zgd_t (zin_n hr (by omega)), nIc (show r ≤ 5000 by omega), r19, r20, ekd, nIc (show kd ≤ 5000 by omega)]
  rcases (show kd = 0 ∨ kd = 1 ∨ kd = 2 ∨ kd = 3 ∨ kd = 4 ∨ kd = 5 ∨ kd = 6 ∨ kd = 7 ∨ kd = 8 ∨ kd = 9 by omega) with rfl | rfl | rfl | rfl | rfl | rfl | rfl | rfl | rfl | rfl
  · rw [if_pos (show nI 0 = (0 : Int32) from rfl), zgd_t (zin_n (show i < 32 by omega) (by omega)), nIc (show i ≤ 5000 by omega), r9]
    refine ⟨σ, ?_, FR_c.rf σ⟩
    show _ = some (bi (zb0 T (T.1 47 r) i), σ)
    unfold zb0
    rcases hb0 with e | ⟨b, hb, e⟩
    · rw [e]
      unfold fn_P_hasBit
      rw [if_pos m1n0, zb_s, if_pos rfl, decide_eq_true rfl]
      rfl
    · rw [e, nIc (show b ≤ 5000 by omega), P_hasBit _ (show b < 32 by omega), zb_s, decide_eq_false (nIm1 (by omega))]
      cases bt (T.1 47 r) b <;> rfl
  · rw [if_neg (show ¬ nI 1 = (0 : Int32) from kd_ne (j := 0) (by omega) (by omega) (by omega)), if_pos (show nI 1 = (1 : Int32) from rfl), zgd_t (zin_n (show i < 32 by omega) (by omega)), nIc (show i ≤ 5000 by omega), r10, eb1, P_hasBit _ (show b1 < 32 by omega), zb_s]
    refine ⟨σ, ?_, FR_c.rf σ⟩
    show _ = some (bi (zb1 T (T.1 47 r) i), σ)
    unfold zb1
    rw [eb1, nIc (show b1 ≤ 5000 by omega)]
    cases bt (T.1 47 r) b1 <;> rfl
  · rw [if_neg (show ¬ nI 2 = (0 : Int32) from kd_ne (j := 0) (by omega) (by omega) (by omega)), if_neg (show ¬ nI 2 = (1 : Int32) from kd_ne (j := 1) (by omega) (by omega) (by omega)), if_pos (show nI 2 = (2 : Int32) from rfl), P_usesBranchOutside hI hR (show i < 32 by omega), zb_s, zgd_t (zbo_bi _)]
    exact ⟨σ, rfl, FR_c.rf σ⟩
  · rw [if_neg (show ¬ nI 3 = (0 : Int32) from kd_ne (j := 0) (by omega) (by omega) (by omega)), if_neg (show ¬ nI 3 = (1 : Int32) from kd_ne (j := 1) (by omega) (by omega) (by omega)), if_neg (show ¬ nI 3 = (2 : Int32) from kd_ne (j := 2) (by omega) (by omega) (by omega)), if_pos (show nI 3 = (3 : Int32) from rfl), P_usesReviewedBelow hI hR (show i < 32 by omega), zb_s, zgd_t (zbo_bi _)]
    exact ⟨σ, rfl, FR_c.rf σ⟩
  · rw [if_neg (show ¬ nI 4 = (0 : Int32) from kd_ne (j := 0) (by omega) (by omega) (by omega)), if_neg (show ¬ nI 4 = (1 : Int32) from kd_ne (j := 1) (by omega) (by omega) (by omega)), if_neg (show ¬ nI 4 = (2 : Int32) from kd_ne (j := 2) (by omega) (by omega) (by omega)), if_neg (show ¬ nI 4 = (3 : Int32) from kd_ne (j := 3) (by omega) (by omega) (by omega)), if_pos (show nI 4 = (4 : Int32) from rfl), P_usesFetchedUntold hI hR (show i < 32 by omega), zb_s, zgd_t (zbo_bi _)]
    exact ⟨σ, rfl, FR_c.rf σ⟩
  · have h6 : nc T i ≤ 6 := (hI.2.1 i (by omega)).2.2.2.1
    have hm := A_miss hI hR hi (j := 0) (by omega)
    have hm : fn_A_missingPlace (nI i) 0 σ = _ := hm
    have ho := oS_any (zmis T i) (nc T i) 0 (by omega)
    rw [if_neg (show ¬ nI 5 = (0 : Int32) from kd_ne (j := 0) (by omega) (by omega) (by omega)), if_neg (show ¬ nI 5 = (1 : Int32) from kd_ne (j := 1) (by omega) (by omega) (by omega)), if_neg (show ¬ nI 5 = (2 : Int32) from kd_ne (j := 2) (by omega) (by omega) (by omega)), if_neg (show ¬ nI 5 = (3 : Int32) from kd_ne (j := 3) (by omega) (by omega) (by omega)), if_neg (show ¬ nI 5 = (4 : Int32) from kd_ne (j := 4) (by omega) (by omega) (by omega)), if_pos (show nI 5 = (5 : Int32) from rfl), hm, zb_s]
    refine ⟨σ, ?_, FR_c.rf σ⟩
    show _ = some (bi (zany (zmis T i) (nc T i) 0), σ)
    cases hz : zany (zmis T i) (nc T i) 0 with
    | false => rw [if_pos (ho.mpr hz)]; rfl
    | true => rw [if_neg (fun e => by rw [ho.mp e] at hz; cases hz)]; rfl
  · rw [if_neg (show ¬ nI 6 = (0 : Int32) from kd_ne (j := 0) (by omega) (by omega) (by omega)), if_neg (show ¬ nI 6 = (1 : Int32) from kd_ne (j := 1) (by omega) (by omega) (by omega)), if_neg (show ¬ nI 6 = (2 : Int32) from kd_ne (j := 2) (by omega) (by omega) (by omega)), if_neg (show ¬ nI 6 = (3 : Int32) from kd_ne (j := 3) (by omega) (by omega) (by omega)), if_neg (show ¬ nI 6 = (4 : Int32) from kd_ne (j := 4) (by omega) (by omega) (by omega)), if_neg (show ¬ nI 6 = (5 : Int32) from kd_ne (j := 5) (by omega) (by omega) (by omega)), if_pos (show nI 6 = (6 : Int32) from rfl), A_later hI hR hi, zb_s, zgd_t (zbo_bi _)]
    exact ⟨σ, rfl, FR_c.rf σ⟩
  · rw [if_neg (show ¬ nI 7 = (0 : Int32) from kd_ne (j := 0) (by omega) (by omega) (by omega)), if_neg (show ¬ nI 7 = (1 : Int32) from kd_ne (j := 1) (by omega) (by omega) (by omega)), if_neg (show ¬ nI 7 = (2 : Int32) from kd_ne (j := 2) (by omega) (by omega) (by omega)), if_neg (show ¬ nI 7 = (3 : Int32) from kd_ne (j := 3) (by omega) (by omega) (by omega)), if_neg (show ¬ nI 7 = (4 : Int32) from kd_ne (j := 4) (by omega) (by omega) (by omega)), if_neg (show ¬ nI 7 = (5 : Int32) from kd_ne (j := 5) (by omega) (by omega) (by omega)), if_neg (show ¬ nI 7 = (6 : Int32) from kd_ne (j := 6) (by omega) (by omega) (by omega)), if_pos (show nI 7 = (7 : Int32) from rfl), A_clashAny hI hR (show i < 32 by omega), zb_s, zgd_t (zbo_bi _)]
    exact ⟨σ, rfl, FR_c.rf σ⟩
  · rw [if_neg (show ¬ nI 8 = (0 : Int32) from kd_ne (j := 0) (by omega) (by omega) (by omega)), if_neg (show ¬ nI 8 = (1 : Int32) from kd_ne (j := 1) (by omega) (by omega) (by omega)), if_neg (show ¬ nI 8 = (2 : Int32) from kd_ne (j := 2) (by omega) (by omega) (by omega)), if_neg (show ¬ nI 8 = (3 : Int32) from kd_ne (j := 3) (by omega) (by omega) (by omega)), if_neg (show ¬ nI 8 = (4 : Int32) from kd_ne (j := 4) (by omega) (by omega) (by omega)), if_neg (show ¬ nI 8 = (5 : Int32) from kd_ne (j := 5) (by omega) (by omega) (by omega)), if_neg (show ¬ nI 8 = (6 : Int32) from kd_ne (j := 6) (by omega) (by omega) (by omega)), if_neg (show ¬ nI 8 = (7 : Int32) from kd_ne (j := 7) (by omega) (by omega) (by omega)), if_pos (show nI 8 = (8 : Int32) from rfl), A_rests hI hR (show i < 32 by omega), zb_s, zgd_t (zbo_bi _)]
    exact ⟨σ, rfl, FR_c.rf σ⟩
  · obtain ⟨σ1, h1, h2, h3⟩ := Q_walk_c ha (WK_c.of hI hR) hi
    rw [if_neg (show ¬ nI 9 = (0 : Int32) from kd_ne (j := 0) (by omega) (by omega) (by omega)), if_neg (show ¬ nI 9 = (1 : Int32) from kd_ne (j := 1) (by omega) (by omega) (by omega)), if_neg (show ¬ nI 9 = (2 : Int32) from kd_ne (j := 2) (by omega) (by omega) (by omega)), if_neg (show ¬ nI 9 = (3 : Int32) from kd_ne (j := 3) (by omega) (by omega) (by omega)), if_neg (show ¬ nI 9 = (4 : Int32) from kd_ne (j := 4) (by omega) (by omega) (by omega)), if_neg (show ¬ nI 9 = (5 : Int32) from kd_ne (j := 5) (by omega) (by omega) (by omega)), if_neg (show ¬ nI 9 = (6 : Int32) from kd_ne (j := 6) (by omega) (by omega) (by omega)), if_neg (show ¬ nI 9 = (7 : Int32) from kd_ne (j := 7) (by omega) (by omega) (by omega)), if_neg (show ¬ nI 9 = (8 : Int32) from kd_ne (j := 8) (by omega) (by omega) (by omega)), if_pos (show nI 9 = (9 : Int32) from rfl), h1, zb_s, h2.1]
    refine ⟨σ1, ?_, h3⟩
    show _ = some (bi (decide (T.1 47 r < nI (clo T i).length)), σ1)
    by_cases hp : T.1 47 r < nI (clo T i).length
    · rw [if_pos hp, decide_eq_true hp]; rfl
    · rw [if_neg hp, decide_eq_false hp]; rfl
theorem M_sb2 {τ : zS} (hI : zIv (zc τ)) {i : Nat} (hi : i < 32) (v : Int32) : fn_M_sourceBreaks (nI i) 2 v τ = some (bi (zb2 (zc τ) v i), τ) := by
  have e1 : τ.1 42 i = nI (uc (zc τ) i) := (hI.2.1 i hi).1
  have hc : uc (zc τ) i ≤ 6 := (hI.2.1 i hi).2.1
  refine zl_anyf (fun n k => fn_M_sourceBreaks_3 n (nI i) 2 v (nI k) τ) (uc (zc τ) i) (fun k => !bt v ((zc τ).1 32 (us (zc τ) (6 * i + k))).toNatClampNeg) (fun n k hk => ?_) 100 (by omega)
  show fn_M_sourceBreaks_3 (n + 1) (nI i) 2 v (nI k) τ = _
  rw [fn_M_sourceBreaks_3, zgd_t (zin_n hi (by omega)), nIc (show i ≤ 5000 by omega), e1]
  by_cases hkc : k < uc (zc τ) i
  · have hu := (hI.2.2.1 i k hi hkc).2
    have eu : τ.1 43 (6 * i + k) = nI (us (zc τ) (6 * i + k)) := (hI.2.2.1 i k hi hkc).1
    have hn24 : zn (zc τ) ≤ 24 := hI.1.2.1
    rw [if_pos ((nIk hk (by omega)).mpr hkc), if_pos hkc, nI6, zgd_t (zin_n (show 6 * i + k < 192 by omega) (by omega)), nIc (show 6 * i + k ≤ 5000 by omega), eu, nI_1]
    obtain ⟨b, hb, eb⟩ := (hI.2.2.2.2.1 (us (zc τ) (6 * i + k)) (by omega)).1
    have eb' : τ.1 32 (us (zc τ) (6 * i + k)) = nI b := eb
    rw [if_pos rfl, zgd_t (zin_n (show us (zc τ) (6 * i + k) < 24 by omega) (by omega)), nIc (show us (zc τ) (6 * i + k) ≤ 5000 by omega), eb', eb, nIc (show b ≤ 5000 by omega)]
    cases hbt : bt v b with
    | false => rw [if_pos ((shr1 v (by omega)).mpr hbt), if_neg (by decide)]; rfl
    | true => rw [if_neg (fun q => by rw [(shr1 v (by omega)).mp q] at hbt; cases hbt), if_pos rfl]; rfl
  · rw [if_neg (fun q => hkc ((nIk hk (by omega)).mp q)), if_neg hkc]
theorem M_sb3 {τ : zS} (hI : zIv (zc τ)) {i : Nat} (hi : i < 32) (v : Int32) : fn_M_sourceBreaks (nI i) 3 v τ = some (bi (zb3 (zc τ) v i), τ) := by
  have e1 : τ.1 42 i = nI (uc (zc τ) i) := (hI.2.1 i hi).1
  have hc : uc (zc τ) i ≤ 6 := (hI.2.1 i hi).2.1
  refine zl_anyf (fun n k => fn_M_sourceBreaks_3 n (nI i) 3 v (nI k) τ) (uc (zc τ) i) (fun k => decide (zbc ((zc τ).1 33 (us (zc τ) (6 * i + k)) &&& (zshl 1 ((zc τ).1 40 i) ^^^ (-1))) < v)) (fun n k hk => ?_) 100 (by omega)
  show fn_M_sourceBreaks_3 (n + 1) (nI i) 3 v (nI k) τ = _
  rw [fn_M_sourceBreaks_3, zgd_t (zin_n hi (by omega)), nIc (show i ≤ 5000 by omega), e1]
  by_cases hkc : k < uc (zc τ) i
  · have hu := (hI.2.2.1 i k hi hkc).2
    have eu : τ.1 43 (6 * i + k) = nI (us (zc τ) (6 * i + k)) := (hI.2.2.1 i k hi hkc).1
    have hn24 : zn (zc τ) ≤ 24 := hI.1.2.1
    rw [if_pos ((nIk hk (by omega)).mpr hkc), if_pos hkc, nI6, zgd_t (zin_n (show 6 * i + k < 192 by omega) (by omega)), nIc (show 6 * i + k ≤ 5000 by omega), eu, nI_1]
    obtain ⟨rv, hrv, erv⟩ := (hI.2.2.2.2.1 (us (zc τ) (6 * i + k)) (by omega)).2
    obtain ⟨a, ha, ea⟩ := (hI.2.2.2.1 i hi).2.2
    have erv' : τ.1 33 (us (zc τ) (6 * i + k)) = nI rv := erv
    have ea' : τ.1 40 i = nI a := ea
    rw [if_neg (by decide), if_pos rfl, zgd_t (zin_n hi (by omega)), ea', M_others (show us (zc τ) (6 * i + k) < 24 by omega) ha hrv erv', zb_s, erv, ea]
    by_cases hp : zbc (nI rv &&& (zshl 1 (nI a) ^^^ (-1))) < v
    · rw [if_pos hp, if_neg (by decide), decide_eq_true hp]; rfl
    · rw [if_neg hp, if_pos rfl, decide_eq_false hp]; rfl
  · rw [if_neg (fun q => hkc ((nIk hk (by omega)).mp q)), if_neg hkc]
theorem M_sb4 {τ : zS} (hI : zIv (zc τ)) {i : Nat} (hi : i < 32) (v : Int32) : fn_M_sourceBreaks (nI i) 4 v τ = some (bi (zb4 (zc τ) i), τ) := by
  have e1 : τ.1 42 i = nI (uc (zc τ) i) := (hI.2.1 i hi).1
  have hc : uc (zc τ) i ≤ 6 := (hI.2.1 i hi).2.1
  refine zl_anyf (fun n k => fn_M_sourceBreaks_3 n (nI i) 4 v (nI k) τ) (uc (zc τ) i) (fun k => !decide ((zc τ).1 34 (us (zc τ) (6 * i + k)) = 0)) (fun n k hk => ?_) 100 (by omega)
  show fn_M_sourceBreaks_3 (n + 1) (nI i) 4 v (nI k) τ = _
  rw [fn_M_sourceBreaks_3, zgd_t (zin_n hi (by omega)), nIc (show i ≤ 5000 by omega), e1]
  by_cases hkc : k < uc (zc τ) i
  · have hu := (hI.2.2.1 i k hi hkc).2
    have eu : τ.1 43 (6 * i + k) = nI (us (zc τ) (6 * i + k)) := (hI.2.2.1 i k hi hkc).1
    have hn24 : zn (zc τ) ≤ 24 := hI.1.2.1
    rw [if_pos ((nIk hk (by omega)).mpr hkc), if_pos hkc, nI6, zgd_t (zin_n (show 6 * i + k < 192 by omega) (by omega)), nIc (show 6 * i + k ≤ 5000 by omega), eu, nI_1]
    rw [if_neg (by decide), if_neg (by decide), zgd_t (zin_n (show us (zc τ) (6 * i + k) < 24 by omega) (by omega)), nIc (show us (zc τ) (6 * i + k) ≤ 5000 by omega)]
    by_cases hp : τ.1 34 (us (zc τ) (6 * i + k)) = 0
    · have hp' : (zc τ).1 34 (us (zc τ) (6 * i + k)) = 0 := hp
      rw [if_pos hp, decide_eq_true hp']; rfl
    · have hp' : ¬ (zc τ).1 34 (us (zc τ) (6 * i + k)) = 0 := hp
      rw [if_neg hp, decide_eq_false hp']; rfl
  · rw [if_neg (fun q => hkc ((nIk hk (by omega)).mp q)), if_neg hkc]
theorem M_late {τ : zS} (hI : zIv (zc τ)) {i : Nat} (hi : i < za (zc τ)) (v : Int32) : fn_M_isLate (nI i) v τ = some (bi (zb6 (zc τ) v i), τ) := by
  have ha : za (zc τ) ≤ 32 := hI.1.2.2.2.1
  have e1 : τ.1 44 i = nI (nc (zc τ) i) := (hI.2.1 i (by omega)).2.2.1
  have hc : nc (zc τ) i ≤ 6 := (hI.2.1 i (by omega)).2.2.2.1
  refine zl_anyf (fun n k => fn_M_isLate_2 n (nI i) v (nI k) τ) (nc (zc τ) i) (fun k => zlt (zc τ) v i (mt (zc τ) ((zc τ).2 36 (6 * i + k)))) (fun n k hk => ?_) 100 (by omega)
  show fn_M_isLate_2 (n + 1) (nI i) v (nI k) τ = _
  rw [fn_M_isLate_2, zgd_t (zin_n (show i < 32 by omega) (by omega)), nIc (show i ≤ 5000 by omega), e1]
  by_cases hkc : k < nc (zc τ) i
  · rw [if_pos ((nIk hk (by omega)).mpr hkc), if_pos hkc, nI6, zgd_t (zin_n (show 6 * i + k < 192 by omega) (by omega)), nIc (show 6 * i + k ≤ 5000 by omega), M_meets hI, zb_s, nI_1]
    have e36 : τ.2 36 (6 * i + k) = (zc τ).2 36 (6 * i + k) := rfl
    rw [e36]
    cases hm : mt (zc τ) ((zc τ).2 36 (6 * i + k)) with
    | none => rw [if_pos (show oI none = -1 from rfl)]; rfl
    | some m =>
      have hm2 := mt_lt hm
      have hne : ¬ oI (some m) = -1 := nIm1 (by omega)
      rw [if_neg hne]
      show zgd (zin (nI m) 32) (zgd (zin (nI i) 32) (if v < τ.1 41 (nI m).toNatClampNeg - τ.1 41 i then some (1, τ) else fn_M_isLate_2 n (nI i) v (nI (k + 1)) τ)) = bif decide (v < τ.1 41 m - τ.1 41 i) then some (1, τ) else fn_M_isLate_2 n (nI i) v (nI (k + 1)) τ
      rw [zgd_t (zin_n (show m < 32 by omega) (by omega)), zgd_t (zin_n (show i < 32 by omega) (by omega)), nIc (show m ≤ 5000 by omega)]
      by_cases hp : v < τ.1 41 m - τ.1 41 i
      · rw [if_pos hp, decide_eq_true hp]; rfl
      · rw [if_neg hp, decide_eq_false hp]; rfl
  · rw [if_neg (fun q => hkc ((nIk hk (by omega)).mp q)), if_neg hkc]
theorem M_missing0 {τ : zS} (hI : zIv (zc τ)) {i : Nat} (hi : i < za (zc τ)) : fn_M_missing (nI i) 0 τ = some (oS (zithr (zmis (zc τ) i) (nc (zc τ) i) 0 0), τ) := by
  unfold fn_M_missing
  rw [M_isArt hI, zb_s, decide_eq_true ⟨i, hi, rfl⟩, if_neg bi_t0, if_neg (by decide)]
  exact M_miss hI hi (j := 0) (by omega)
theorem M_isBroken {τ : zS} (hI : zIv (zc τ)) {i r : Nat} (hi : i < za (zc τ)) (hr : r < 16) : ∃ τ', fn_M_isBroken (nI i) (nI r) τ = some (bi (zbrk (zc τ) i r), τ') ∧ FM τ τ' := by
  have ha : za (zc τ) ≤ 32 := hI.1.2.2.2.1
  obtain ⟨kd, hkd, ekd⟩ := hI.2.2.2.2.2.1 r hr
  obtain ⟨hb0, ⟨b1, hb1, eb1⟩, -⟩ := hI.2.2.2.1 i (by omega)
  have ekd' : τ.1 46 r = nI kd := ekd
  have eb1' : τ.1 39 i = nI b1 := eb1
  have ev : τ.1 47 r = (zc τ).1 47 r := rfl
  unfold fn_M_isBroken zbrk
  rw [zgd_t (zin_n hr (by omega)), zgd_t (zin_n hr (by omega)), nIc (show r ≤ 5000 by omega), ekd', ekd, nIc (show kd ≤ 5000 by omega), ev]
  rcases (show kd = 0 ∨ kd = 1 ∨ kd = 2 ∨ kd = 3 ∨ kd = 4 ∨ kd = 5 ∨ kd = 6 ∨ kd = 7 ∨ kd = 8 ∨ kd = 9 by omega) with rfl | rfl | rfl | rfl | rfl | rfl | rfl | rfl | rfl | rfl
  · rw [if_pos (show nI 0 = (0 : Int32) from rfl), zgd_t (zin_n (show i < 32 by omega) (by omega)), zgd_t (zin_n (show i < 32 by omega) (by omega)), nIc (show i ≤ 5000 by omega)]
    refine ⟨τ, ?_, FM.rf τ⟩
    show _ = some (bi (zb0 (zc τ) ((zc τ).1 47 r) i), τ)
    unfold zb0
    rcases hb0 with e | ⟨b, hb, e⟩
    · have e' : τ.1 38 i = -1 := e
      rw [if_pos e', e, decide_eq_true rfl]
      rfl
    · have e' : τ.1 38 i = nI b := e
      rw [e', e, nIc (show b ≤ 5000 by omega), if_neg (nIm1 (by omega)), decide_eq_false (nIm1 (by omega))]
      cases hbt : bt ((zc τ).1 47 r) b with
      | false => rw [if_pos ((shr1 _ (by omega)).mpr hbt)]; rfl
      | true => rw [if_neg (fun q => by rw [(shr1 _ (by omega)).mp q] at hbt; cases hbt)]; rfl
  · rw [if_neg (show ¬ nI 1 = (0 : Int32) from kd_ne (j := 0) (by omega) (by omega) (by omega)), if_pos (show nI 1 = (1 : Int32) from rfl), zgd_t (zin_n (show i < 32 by omega) (by omega)), nIc (show i ≤ 5000 by omega), eb1']
    refine ⟨τ, ?_, FM.rf τ⟩
    show _ = some (bi (zb1 (zc τ) ((zc τ).1 47 r) i), τ)
    unfold zb1
    rw [eb1, nIc (show b1 ≤ 5000 by omega)]
    cases hbt : bt ((zc τ).1 47 r) b1 with
    | false => rw [if_pos ((shr1 _ (by omega)).mpr hbt)]; rfl
    | true => rw [if_neg (fun q => by rw [(shr1 _ (by omega)).mp q] at hbt; cases hbt)]; rfl
  · have hsb : fn_M_sourceBreaks (nI i) (nI 2) ((zc τ).1 47 r) τ = _ := M_sb2 hI (show i < 32 by omega) ((zc τ).1 47 r)
    rw [if_neg (show ¬ nI 2 = (0 : Int32) from kd_ne (j := 0) (by omega) (by omega) (by omega)), if_neg (show ¬ nI 2 = (1 : Int32) from kd_ne (j := 1) (by omega) (by omega) (by omega)), if_pos (show nI 2 = (2 : Int32) from rfl), zgd_t (zin_n hr (by omega)), hsb, zb_s, zgd_t (zbo_bi _)]
    exact ⟨τ, rfl, FM.rf τ⟩
  · have hsb : fn_M_sourceBreaks (nI i) (nI 3) ((zc τ).1 47 r) τ = _ := M_sb3 hI (show i < 32 by omega) ((zc τ).1 47 r)
    rw [if_neg (show ¬ nI 3 = (0 : Int32) from kd_ne (j := 0) (by omega) (by omega) (by omega)), if_neg (show ¬ nI 3 = (1 : Int32) from kd_ne (j := 1) (by omega) (by omega) (by omega)), if_neg (show ¬ nI 3 = (2 : Int32) from kd_ne (j := 2) (by omega) (by omega) (by omega)), if_pos (show nI 3 = (3 : Int32) from rfl), zgd_t (zin_n hr (by omega)), hsb, zb_s, zgd_t (zbo_bi _)]
    exact ⟨τ, rfl, FM.rf τ⟩
  · have hsb : fn_M_sourceBreaks (nI i) (nI 4) ((zc τ).1 47 r) τ = _ := M_sb4 hI (show i < 32 by omega) ((zc τ).1 47 r)
    rw [if_neg (show ¬ nI 4 = (0 : Int32) from kd_ne (j := 0) (by omega) (by omega) (by omega)), if_neg (show ¬ nI 4 = (1 : Int32) from kd_ne (j := 1) (by omega) (by omega) (by omega)), if_neg (show ¬ nI 4 = (2 : Int32) from kd_ne (j := 2) (by omega) (by omega) (by omega)), if_neg (show ¬ nI 4 = (3 : Int32) from kd_ne (j := 3) (by omega) (by omega) (by omega)), if_pos (show nI 4 = (4 : Int32) from rfl), zgd_t (zin_n hr (by omega)), hsb, zb_s, zgd_t (zbo_bi _)]
    exact ⟨τ, rfl, FM.rf τ⟩
  · have h6 : nc (zc τ) i ≤ 6 := (hI.2.1 i (by omega)).2.2.2.1
    have ho := oS_any (zmis (zc τ) i) (nc (zc τ) i) 0 (by omega)
    rw [if_neg (show ¬ nI 5 = (0 : Int32) from kd_ne (j := 0) (by omega) (by omega) (by omega)), if_neg (show ¬ nI 5 = (1 : Int32) from kd_ne (j := 1) (by omega) (by omega) (by omega)), if_neg (show ¬ nI 5 = (2 : Int32) from kd_ne (j := 2) (by omega) (by omega) (by omega)), if_neg (show ¬ nI 5 = (3 : Int32) from kd_ne (j := 3) (by omega) (by omega) (by omega)), if_neg (show ¬ nI 5 = (4 : Int32) from kd_ne (j := 4) (by omega) (by omega) (by omega)), if_pos (show nI 5 = (5 : Int32) from rfl), M_missing0 hI hi, zb_s]
    refine ⟨τ, ?_, FM.rf τ⟩
    show _ = some (bi (zany (zmis (zc τ) i) (nc (zc τ) i) 0), τ)
    cases hz : zany (zmis (zc τ) i) (nc (zc τ) i) 0 with
    | false => rw [if_pos (ho.mpr hz)]; rfl
    | true => rw [if_neg (fun e => by rw [ho.mp e] at hz; cases hz)]; rfl
  · rw [if_neg (show ¬ nI 6 = (0 : Int32) from kd_ne (j := 0) (by omega) (by omega) (by omega)), if_neg (show ¬ nI 6 = (1 : Int32) from kd_ne (j := 1) (by omega) (by omega) (by omega)), if_neg (show ¬ nI 6 = (2 : Int32) from kd_ne (j := 2) (by omega) (by omega) (by omega)), if_neg (show ¬ nI 6 = (3 : Int32) from kd_ne (j := 3) (by omega) (by omega) (by omega)), if_neg (show ¬ nI 6 = (4 : Int32) from kd_ne (j := 4) (by omega) (by omega) (by omega)), if_neg (show ¬ nI 6 = (5 : Int32) from kd_ne (j := 5) (by omega) (by omega) (by omega)), if_pos (show nI 6 = (6 : Int32) from rfl), M_late hI hi, zb_s, zgd_t (zbo_bi _)]
    exact ⟨τ, rfl, FM.rf τ⟩
  · rw [if_neg (show ¬ nI 7 = (0 : Int32) from kd_ne (j := 0) (by omega) (by omega) (by omega)), if_neg (show ¬ nI 7 = (1 : Int32) from kd_ne (j := 1) (by omega) (by omega) (by omega)), if_neg (show ¬ nI 7 = (2 : Int32) from kd_ne (j := 2) (by omega) (by omega) (by omega)), if_neg (show ¬ nI 7 = (3 : Int32) from kd_ne (j := 3) (by omega) (by omega) (by omega)), if_neg (show ¬ nI 7 = (4 : Int32) from kd_ne (j := 4) (by omega) (by omega) (by omega)), if_neg (show ¬ nI 7 = (5 : Int32) from kd_ne (j := 5) (by omega) (by omega) (by omega)), if_neg (show ¬ nI 7 = (6 : Int32) from kd_ne (j := 6) (by omega) (by omega) (by omega)), if_pos (show nI 7 = (7 : Int32) from rfl), M_clashAny hI (show i < 32 by omega)]
    exact ⟨τ, rfl, FM.rf τ⟩
  · have e1 : τ.1 42 i = nI (uc (zc τ) i) := (hI.2.1 i (by omega)).1
    have e2 : τ.1 44 i = nI (nc (zc τ) i) := (hI.2.1 i (by omega)).2.2.1
    have c1 : uc (zc τ) i ≤ 6 := (hI.2.1 i (by omega)).2.1
    have c2 : nc (zc τ) i ≤ 6 := (hI.2.1 i (by omega)).2.2.2.1
    rw [if_neg (show ¬ nI 8 = (0 : Int32) from kd_ne (j := 0) (by omega) (by omega) (by omega)), if_neg (show ¬ nI 8 = (1 : Int32) from kd_ne (j := 1) (by omega) (by omega) (by omega)), if_neg (show ¬ nI 8 = (2 : Int32) from kd_ne (j := 2) (by omega) (by omega) (by omega)), if_neg (show ¬ nI 8 = (3 : Int32) from kd_ne (j := 3) (by omega) (by omega) (by omega)), if_neg (show ¬ nI 8 = (4 : Int32) from kd_ne (j := 4) (by omega) (by omega) (by omega)), if_neg (show ¬ nI 8 = (5 : Int32) from kd_ne (j := 5) (by omega) (by omega) (by omega)), if_neg (show ¬ nI 8 = (6 : Int32) from kd_ne (j := 6) (by omega) (by omega) (by omega)), if_neg (show ¬ nI 8 = (7 : Int32) from kd_ne (j := 7) (by omega) (by omega) (by omega)), if_pos (show nI 8 = (8 : Int32) from rfl), zgd_t (zin_n (show i < 32 by omega) (by omega)), zgd_t (zin_n (show i < 32 by omega) (by omega)), nIc (show i ≤ 5000 by omega), e1, e2]
    refine ⟨τ, ?_, FM.rf τ⟩
    show _ = some (bi (zb8 (zc τ) i), τ)
    unfold zb8
    by_cases h1 : uc (zc τ) i = 0
    · rw [if_pos (show nI (uc (zc τ) i) = 0 by rw [h1]; rfl), decide_eq_true h1, Bool.true_and]
      by_cases h2 : nc (zc τ) i = 0
      · rw [if_pos (show nI (nc (zc τ) i) = 0 by rw [h2]; rfl), decide_eq_true h2]; rfl
      · rw [if_neg (nI_ne0 (by omega) (by omega)), decide_eq_false h2]; rfl
    · rw [if_neg (nI_ne0 (by omega) (by omega)), decide_eq_false h1]; rfl
  · obtain ⟨τ1, h1, h2, h3⟩ := M_goAlong hI hi
    rw [if_neg (show ¬ nI 9 = (0 : Int32) from kd_ne (j := 0) (by omega) (by omega) (by omega)), if_neg (show ¬ nI 9 = (1 : Int32) from kd_ne (j := 1) (by omega) (by omega) (by omega)), if_neg (show ¬ nI 9 = (2 : Int32) from kd_ne (j := 2) (by omega) (by omega) (by omega)), if_neg (show ¬ nI 9 = (3 : Int32) from kd_ne (j := 3) (by omega) (by omega) (by omega)), if_neg (show ¬ nI 9 = (4 : Int32) from kd_ne (j := 4) (by omega) (by omega) (by omega)), if_neg (show ¬ nI 9 = (5 : Int32) from kd_ne (j := 5) (by omega) (by omega) (by omega)), if_neg (show ¬ nI 9 = (6 : Int32) from kd_ne (j := 6) (by omega) (by omega) (by omega)), if_neg (show ¬ nI 9 = (7 : Int32) from kd_ne (j := 7) (by omega) (by omega) (by omega)), if_neg (show ¬ nI 9 = (8 : Int32) from kd_ne (j := 8) (by omega) (by omega) (by omega)), h1, zb_s, h2.1]
    refine ⟨τ1, ?_, h3⟩
    show _ = some (bi (decide ((zc τ).1 47 r < nI (clo (zc τ) i).length)), τ1)
    by_cases hp : (zc τ).1 47 r < nI (clo (zc τ) i).length
    · rw [if_pos hp, decide_eq_true hp]; rfl
    · rw [if_neg hp, decide_eq_false hp]; rfl
/-- promise 11 -/
theorem ok_breaks {σ τ : zS} (h : zRel σ τ) (x1 x2 : Int32) : zOK (fn_P_breaks x1 x2 σ) (fn_M_breaks x1 x2 τ) := by
  obtain ⟨hI, hR⟩ := id h
  obtain ⟨r1, r2, r3, r4, r5, r6, r7, r8, r9, r10, r11, r12, r13, r14, r15, r16, r17, r18, r19, r20, r21, r22, r23, r24⟩ := id hR
  obtain ⟨⟨i1, i2, i3, i4, i5, i6, i7, i8⟩, I2, I3, I4, I5, I6, I7⟩ := id hI
  unfold fn_P_breaks fn_M_breaks
  rw [A_has hI hR, zb_s, M_isArt hI, zb_s]
  by_cases hg : ∃ j : Nat, j < za (zc τ) ∧ x1 = nI j
  · rw [decide_eq_true hg, if_neg bi_t0, if_neg bi_t0]
    obtain ⟨i, hi, rfl⟩ := hg
    rw [Y_has hI hR, zb_s, show τ.1 702 0 = nI (zp (zc τ)) from i5]
    rcases nIrange x2 (c := zp (zc τ)) (by omega) with h2 | ⟨r, hr, rfl⟩
    · have hn : ¬ ∃ j : Nat, j < zp (zc τ) ∧ x2 = nI j := by
        rintro ⟨j, hj, rfl⟩
        rcases h2 with h2 | h2
        · exact nIn0 (by omega) h2
        · exact h2 ((nIlt (by omega) (by omega)).mpr hj)
      rw [decide_eq_false hn, if_pos bi_f0]
      refine zOK.same h rfl ?_
      by_cases h3 : x2 < 0
      · rw [if_pos h3]
      · rw [if_neg h3, if_neg (h2.resolve_left h3)]
    · rw [decide_eq_true ⟨r, hr, rfl⟩, if_neg bi_t0, if_neg (nIn0 (by omega)), if_pos ((nIlt (by omega) (by omega)).mpr hr)]
      obtain ⟨σ1, hs1, hs2⟩ := P_isBroken hI hR hi (r := r) (by omega)
      obtain ⟨τ1, ht1, ht2⟩ := M_isBroken hI hi (r := r) (by omega)
      rw [hs1, zb_s, ht1, zb_s]
      have hrel : zRel σ1 τ1 := by
        have hc := zc_fm ht2
        exact ⟨by rw [hc]; exact hI, by rw [hc]; exact RC_c hR hs2⟩
      cases zbrk (zc τ) i r with
      | false => rw [if_pos bi_f0, if_pos bi_f0]; exact zOK.same hrel rfl rfl
      | true => rw [if_neg bi_t0, if_neg bi_t0]; exact zOK.same hrel rfl rfl
  · rw [decide_eq_false hg, if_pos bi_f0, if_pos bi_f0]
    exact zOK.same h rfl rfl
