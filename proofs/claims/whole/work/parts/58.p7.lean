/-! do two agree -/
def zeu (T : zS) (i j : Nat) : Bool := zall (fun k => decide (T.1 43 (6 * i + k) = T.1 43 (6 * j + k))) (uc T i) 0
def zen (T : zS) (i j : Nat) : Bool := zall (fun k => decide (T.2 36 (6 * i + k) = T.2 36 (6 * j + k))) (nc T i) 0
def zagr (T : zS) (i j : Nat) : Bool := decide (T.1 38 i = T.1 38 j) && (decide (T.1 39 i = T.1 39 j) && ((decide (uc T i = uc T j) && zeu T i j) && (decide (nc T i = nc T j) && zen T i j)))
def zcsh (T : zS) (i j : Nat) : Bool := decide (T.2 35 i = T.2 35 j) && !zagr T i j
theorem W_same_u {σ T : zS} (hI : zIv T) (hR : zRC σ T) {i j : Nat} (hi : i < 32) (hj : j < 32) : fn_W_sameInOrder_u (nI i) (nI j) σ = some (bi (decide (uc T i = uc T j) && zeu T i j), σ) := by
  obtain ⟨r1, r2, r3, r4, r5, r6, r7, r8, r9, r10, r11, r12, r13, r14, r15, r16, r17, r18, r19, r20, r21, r22, r23, r24⟩ := id hR
  have e1 : σ.1 13 i = nI (uc T i) := by rw [r13]; exact (hI.2.1 i hi).1
  have e2 : σ.1 13 j = nI (uc T j) := by rw [r13]; exact (hI.2.1 j hj).1
  have hc : uc T i ≤ 6 := (hI.2.1 i hi).2.1
  have hc2 : uc T j ≤ 6 := (hI.2.1 j hj).2.1
  have hP : zeu T i j = zall (fun k => decide (σ.2 14 (6 * i + k) = σ.2 14 (6 * j + k))) (uc T i) 0 := zall_congr (fun k _ _ => by
    rw [r14, r14]; exact decide_eq_decide.mpr i64_inj.symm)
  unfold fn_W_sameInOrder_u
  rw [zgd_t (zin_n hi (by omega)), zgd_t (zin_n hj (by omega)), nIc (show i ≤ 5000 by omega), nIc (show j ≤ 5000 by omega), e1, e2, hP]
  by_cases hcc : uc T i = uc T j
  · rw [if_pos (by rw [hcc]), decide_eq_true hcc, Bool.true_and]
    refine zl_allf (fun n k => fn_W_sameInOrder_u_19 n (nI i) (nI j) (nI k) σ) (uc T i) _ (fun n k hk => ?_) 100 (by omega)
    show fn_W_sameInOrder_u_19 (n + 1) (nI i) (nI j) (nI k) σ = _
    rw [fn_W_sameInOrder_u_19, zgd_t (zin_n hi (by omega)), nIc (show i ≤ 5000 by omega), e1]
    by_cases hkc : k < uc T i
    · rw [if_pos ((nIk hk (by omega)).mpr hkc), if_pos hkc]
      unfold fn_W_valueAt_u
      rw [nI6', zgd_t (zin_n (show 6 * i + k < 192 by omega) (by omega)), nIc (show 6 * i + k ≤ 5000 by omega), zb_s, nI6', zgd_t (zin_n (show 6 * j + k < 192 by omega) (by omega)), nIc (show 6 * j + k ≤ 5000 by omega), zb_s, nI_1]
      by_cases hp : σ.2 14 (6 * i + k) = σ.2 14 (6 * j + k)
      · rw [if_pos ((lg_cmp_eq _ _).mpr hp), decide_eq_true hp]; rfl
      · rw [if_neg (fun e => hp ((lg_cmp_eq _ _).mp e)), decide_eq_false hp]; rfl
    · rw [if_neg (fun q => hkc ((nIk hk (by omega)).mp q)), if_neg hkc]
  · rw [if_neg (fun e => hcc ((nIeq (by omega) (by omega)).mp e)), decide_eq_false hcc]; rfl
theorem W_same_n {σ T : zS} (hI : zIv T) (hR : zRC σ T) {i j : Nat} (hi : i < 32) (hj : j < 32) : fn_W_sameInOrder_n (nI i) (nI j) σ = some (bi (decide (nc T i = nc T j) && zen T i j), σ) := by
  obtain ⟨r1, r2, r3, r4, r5, r6, r7, r8, r9, r10, r11, r12, r13, r14, r15, r16, r17, r18, r19, r20, r21, r22, r23, r24⟩ := id hR
  have e1 : σ.1 16 i = nI (nc T i) := by rw [r15]; exact (hI.2.1 i hi).2.2.1
  have e2 : σ.1 16 j = nI (nc T j) := by rw [r15]; exact (hI.2.1 j hj).2.2.1
  have hc : nc T i ≤ 6 := (hI.2.1 i hi).2.2.2.1
  have hc2 : nc T j ≤ 6 := (hI.2.1 j hj).2.2.2.1
  have hP : zen T i j = zall (fun k => decide (σ.2 17 (6 * i + k) = σ.2 17 (6 * j + k))) (nc T i) 0 := zall_congr (fun k _ _ => by
    rw [r16])
  unfold fn_W_sameInOrder_n
  rw [zgd_t (zin_n hi (by omega)), zgd_t (zin_n hj (by omega)), nIc (show i ≤ 5000 by omega), nIc (show j ≤ 5000 by omega), e1, e2, hP]
  by_cases hcc : nc T i = nc T j
  · rw [if_pos (by rw [hcc]), decide_eq_true hcc, Bool.true_and]
    refine zl_allf (fun n k => fn_W_sameInOrder_n_19 n (nI i) (nI j) (nI k) σ) (nc T i) _ (fun n k hk => ?_) 100 (by omega)
    show fn_W_sameInOrder_n_19 (n + 1) (nI i) (nI j) (nI k) σ = _
    rw [fn_W_sameInOrder_n_19, zgd_t (zin_n hi (by omega)), nIc (show i ≤ 5000 by omega), e1]
    by_cases hkc : k < nc T i
    · rw [if_pos ((nIk hk (by omega)).mpr hkc), if_pos hkc]
      unfold fn_W_valueAt_n
      rw [nI6', zgd_t (zin_n (show 6 * i + k < 192 by omega) (by omega)), nIc (show 6 * i + k ≤ 5000 by omega), zb_s, nI6', zgd_t (zin_n (show 6 * j + k < 192 by omega) (by omega)), nIc (show 6 * j + k ≤ 5000 by omega), zb_s, nI_1]
      by_cases hp : σ.2 17 (6 * i + k) = σ.2 17 (6 * j + k)
      · rw [if_pos ((lg_cmp_eq _ _).mpr hp), decide_eq_true hp]; rfl
      · rw [if_neg (fun e => hp ((lg_cmp_eq _ _).mp e)), decide_eq_false hp]; rfl
    · rw [if_neg (fun q => hkc ((nIk hk (by omega)).mp q)), if_neg hkc]
  · rw [if_neg (fun e => hcc ((nIeq (by omega) (by omega)).mp e)), decide_eq_false hcc]; rfl
theorem A_clashing {σ T : zS} (hI : zIv T) (hR : zRC σ T) {i j : Nat} (hi : i < 32) (hj : j < 32) : fn_A_clashing (nI i) (nI j) σ = some (bi (zcsh T i j), σ) := by
  obtain ⟨r1, r2, r3, r4, r5, r6, r7, r8, r9, r10, r11, r12, r13, r14, r15, r16, r17, r18, r19, r20, r21, r22, r23, r24⟩ := id hR
  unfold fn_A_clashing zcsh zagr
  have z1 : ∀ e : Option (Int32 × zS), zgd (zin (nI i) 32) e = e := fun e => zgd_t (zin_n hi (by omega))
  have z2 : ∀ e : Option (Int32 × zS), zgd (zin (nI j) 32) e = e := fun e => zgd_t (zin_n hj (by omega))
  simp only [z1, z2, nIc (show i ≤ 5000 by omega), nIc (show j ≤ 5000 by omega), W_same_u hI hR hi hj, W_same_n hI hR hi hj, zb_s, r8, r9, r10]
  by_cases h1 : T.2 35 i = T.2 35 j
  · rw [if_pos ((lg_cmp_eq _ _).mpr h1), decide_eq_true h1, Bool.true_and]
    by_cases h2 : T.1 38 i = T.1 38 j
    · rw [if_pos h2, decide_eq_true h2, Bool.true_and]
      by_cases h3 : T.1 39 i = T.1 39 j
      · rw [if_pos h3, decide_eq_true h3, Bool.true_and]
        cases decide (uc T i = uc T j) && zeu T i j with
        | false => rfl
        | true =>
          rw [if_neg bi_t0, Bool.true_and]
          cases decide (nc T i = nc T j) && zen T i j with
          | false => rfl
          | true => rfl
      · rw [if_neg h3, decide_eq_false h3]; rfl
    · rw [if_neg h2, decide_eq_false h2]; rfl
  · rw [if_neg (fun e => h1 ((lg_cmp_eq _ _).mp e)), decide_eq_false h1]; rfl
theorem M_agree2 {τ : zS} (hI : zIv (zc τ)) {i j : Nat} (hi : i < 32) (hj : j < 32) (b : Bool) : fn_M_agree_126 100 (nI i) (nI j) (bi b) 0 τ = some (bi (b && zen (zc τ) i j), τ) := by
  have e1 : τ.1 44 i = nI (nc (zc τ) i) := (hI.2.1 i hi).2.2.1
  have hc : nc (zc τ) i ≤ 6 := (hI.2.1 i hi).2.2.2.1
  refine zl_hall (fun n b k => fn_M_agree_126 n (nI i) (nI j) (bi b) (nI k) τ) (nc (zc τ) i) (fun k => decide ((zc τ).2 36 (6 * i + k) = (zc τ).2 36 (6 * j + k))) (fun n b k hk => ?_) b 100 (by omega)
  show fn_M_agree_126 (n + 1) (nI i) (nI j) (bi b) (nI k) τ = _
  rw [fn_M_agree_126, zgd_t (zin_n hi (by omega)), nIc (show i ≤ 5000 by omega), e1]
  by_cases hkc : k < nc (zc τ) i
  · rw [if_pos ((nIk hk (by omega)).mpr hkc), if_pos hkc]
    cases b with
    | false => rw [if_pos bi_f0, zgd_t (zbo_bi false)]; rfl
    | true =>
      rw [if_neg bi_t0, nI6, zgd_t (zin_n (show 6 * i + k < 192 by omega) (by omega)), nIc (show 6 * i + k ≤ 5000 by omega), nI6, zgd_t (zin_n (show 6 * j + k < 192 by omega) (by omega)), nIc (show 6 * j + k ≤ 5000 by omega), nI_1]
      by_cases hp : τ.2 36 (6 * i + k) = τ.2 36 (6 * j + k)
      · have hp' : (zc τ).2 36 (6 * i + k) = (zc τ).2 36 (6 * j + k) := hp
        rw [if_pos ((lg_cmp_eq _ _).mpr hp), decide_eq_true hp']; rfl
      · have hp' : ¬ (zc τ).2 36 (6 * i + k) = (zc τ).2 36 (6 * j + k) := hp
        rw [if_neg (fun e => hp ((lg_cmp_eq _ _).mp e)), decide_eq_false hp']; rfl
  · rw [if_neg (fun q => hkc ((nIk hk (by omega)).mp q)), if_neg hkc, zgd_t (zbo_bi b)]
theorem M_agree1 {τ : zS} (hI : zIv (zc τ)) {i j : Nat} (hi : i < 32) (hj : j < 32) (b : Bool) : fn_M_agree_69 100 (nI i) (nI j) (bi b) 0 τ = some (bi ((b && zeu (zc τ) i j) && zen (zc τ) i j), τ) := by
  have e1 : τ.1 42 i = nI (uc (zc τ) i) := (hI.2.1 i hi).1
  have hc : uc (zc τ) i ≤ 6 := (hI.2.1 i hi).2.1
  have key := zl_all (fun n b k => fn_M_agree_69 n (nI i) (nI j) (bi b) (nI k) τ) (uc (zc τ) i) (fun k => decide ((zc τ).1 43 (6 * i + k) = (zc τ).1 43 (6 * j + k))) (fun b => fn_M_agree_126 100 (nI i) (nI j) (bi b) 0 τ) (fun n b k hk => by
    show fn_M_agree_69 (n + 1) (nI i) (nI j) (bi b) (nI k) τ = _
    rw [fn_M_agree_69, zgd_t (zin_n hi (by omega)), nIc (show i ≤ 5000 by omega), e1]
    by_cases hkc : k < uc (zc τ) i
    · rw [if_pos ((nIk hk (by omega)).mpr hkc), if_pos hkc]
      cases b with
      | false => rw [if_pos bi_f0]; rfl
      | true =>
        rw [if_neg bi_t0, nI6, zgd_t (zin_n (show 6 * i + k < 192 by omega) (by omega)), nIc (show 6 * i + k ≤ 5000 by omega), nI6, zgd_t (zin_n (show 6 * j + k < 192 by omega) (by omega)), nIc (show 6 * j + k ≤ 5000 by omega), nI_1]
        by_cases hp : τ.1 43 (6 * i + k) = τ.1 43 (6 * j + k)
        · have hp' : (zc τ).1 43 (6 * i + k) = (zc τ).1 43 (6 * j + k) := hp
          rw [if_pos hp, decide_eq_true hp']; rfl
        · have hp' : ¬ (zc τ).1 43 (6 * i + k) = (zc τ).1 43 (6 * j + k) := hp
          rw [if_neg hp, decide_eq_false hp']; rfl
    · rw [if_neg (fun q => hkc ((nIk hk (by omega)).mp q)), if_neg hkc]) (uc (zc τ) i) 100 b 0 (by omega) (by omega)
  exact Eq.trans key (M_agree2 hI hi hj _)
theorem M_agree {τ : zS} (hI : zIv (zc τ)) {i j : Nat} (hi : i < 32) (hj : j < 32) : fn_M_agree (nI i) (nI j) τ = some (bi (zagr (zc τ) i j), τ) := by
  have e1 : τ.1 42 i = nI (uc (zc τ) i) := (hI.2.1 i hi).1
  have e2 : τ.1 42 j = nI (uc (zc τ) j) := (hI.2.1 j hj).1
  have e3 : τ.1 44 i = nI (nc (zc τ) i) := (hI.2.1 i hi).2.2.1
  have e4 : τ.1 44 j = nI (nc (zc τ) j) := (hI.2.1 j hj).2.2.1
  have c1 : uc (zc τ) i ≤ 6 := (hI.2.1 i hi).2.1
  have c2 : uc (zc τ) j ≤ 6 := (hI.2.1 j hj).2.1
  have c3 : nc (zc τ) i ≤ 6 := (hI.2.1 i hi).2.2.2.1
  have c4 : nc (zc τ) j ≤ 6 := (hI.2.1 j hj).2.2.2.1
  have z1 : ∀ e : Option (Int32 × zS), zgd (zin (nI i) 32) e = e := fun e => zgd_t (zin_n hi (by omega))
  have z2 : ∀ e : Option (Int32 × zS), zgd (zin (nI j) 32) e = e := fun e => zgd_t (zin_n hj (by omega))
  have k0 : fn_M_agree_69 100 (nI i) (nI j) 0 0 τ = some (bi false, τ) := (M_agree1 hI hi hj false)
  have k1 : fn_M_agree_69 100 (nI i) (nI j) 1 0 τ = some (bi (zeu (zc τ) i j && zen (zc τ) i j), τ) := (M_agree1 hI hi hj true)
  unfold fn_M_agree zagr
  simp only [z1, z2, nIc (show i ≤ 5000 by omega), nIc (show j ≤ 5000 by omega), e1, e2, e3, e4, k0, k1]
  by_cases h2 : τ.1 38 i = τ.1 38 j
  · have h2' : (zc τ).1 38 i = (zc τ).1 38 j := h2
    rw [if_pos h2, decide_eq_true h2', Bool.true_and]
    by_cases h3 : τ.1 39 i = τ.1 39 j
    · have h3' : (zc τ).1 39 i = (zc τ).1 39 j := h3
      rw [if_pos h3, decide_eq_true h3', Bool.true_and]
      by_cases h4 : uc (zc τ) i = uc (zc τ) j
      · rw [if_pos (by rw [h4]), decide_eq_true h4, Bool.true_and]
        by_cases h5 : nc (zc τ) i = nc (zc τ) j
        · rw [if_pos (by rw [h5]), decide_eq_true h5, Bool.true_and]
        · rw [if_neg (fun e => h5 ((nIeq (by omega) (by omega)).mp e)), decide_eq_false h5, Bool.false_and, Bool.and_false]
      · rw [if_neg (fun e => h4 ((nIeq (by omega) (by omega)).mp e)), decide_eq_false h4]; rfl
    · have h3' : ¬ (zc τ).1 39 i = (zc τ).1 39 j := h3
      rw [if_neg h3, decide_eq_false h3']; rfl
  · have h2' : ¬ (zc τ).1 38 i = (zc τ).1 38 j := h2
    rw [if_neg h2, decide_eq_false h2']; rfl
theorem M_isClash {τ : zS} (hI : zIv (zc τ)) {i j : Nat} (hi : i < 32) (hj : j < 32) : fn_M_isClash (nI i) (nI j) τ = some (bi (zcsh (zc τ) i j), τ) := by
  unfold fn_M_isClash zcsh
  rw [zgd_t (zin_n hi (by omega)), zgd_t (zin_n hj (by omega)), nIc (show i ≤ 5000 by omega), nIc (show j ≤ 5000 by omega), M_agree hI hi hj, zb_s]
  by_cases h1 : τ.2 35 i = τ.2 35 j
  · have h1' : (zc τ).2 35 i = (zc τ).2 35 j := h1
    rw [if_pos ((lg_cmp_eq _ _).mpr h1), decide_eq_true h1', Bool.true_and]
    cases zagr (zc τ) i j <;> rfl
  · have h1' : ¬ (zc τ).2 35 i = (zc τ).2 35 j := h1
    rw [if_neg (fun e => h1 ((lg_cmp_eq _ _).mp e)), decide_eq_false h1']; rfl
theorem A_clashAny {σ T : zS} (hI : zIv T) (hR : zRC σ T) {i : Nat} (hi : i < 32) : fn_A_clashesWithAny (nI i) σ = some (bi (zany (zcsh T i) (za T) 0), σ) := by
  have e1 : σ.1 220 0 = nI (za T) := hR.2.1.trans hI.1.2.2.1
  have hc : za T ≤ 32 := hI.1.2.2.2.1
  refine zl_anyf (fun n k => fn_A_clashesWithAny_2 n (nI i) (nI k) σ) (za T) _ (fun n k hk => ?_) 100 (by omega)
  show fn_A_clashesWithAny_2 (n + 1) (nI i) (nI k) σ = _
  rw [fn_A_clashesWithAny_2, e1]
  by_cases hkc : k < za T
  · rw [if_pos ((nIk hk (by omega)).mpr hkc), if_pos hkc, A_clashing hI hR hi (show k < 32 by omega), zb_s, nI_1]
    cases zcsh T i k with
    | false => rw [if_pos bi_f0]; rfl
    | true => rw [if_neg bi_t0]; rfl
  · rw [if_neg (fun q => hkc ((nIk hk (by omega)).mp q)), if_neg hkc]
theorem M_clashAny {τ : zS} (hI : zIv (zc τ)) {i : Nat} (hi : i < 32) : fn_M_isBroken_154 100 (nI i) 0 0 τ = some (bi (zany (zcsh (zc τ) i) (za (zc τ)) 0), τ) := by
  have e1 : τ.1 701 0 = nI (za (zc τ)) := hI.1.2.2.1
  have hc : za (zc τ) ≤ 32 := hI.1.2.2.2.1
  refine zl_has (fun n b k => fn_M_isBroken_154 n (nI i) (bi b) (nI k) τ) (za (zc τ)) _ (fun n b k hk => ?_) 100 (by omega)
  show fn_M_isBroken_154 (n + 1) (nI i) (bi b) (nI k) τ = _
  rw [fn_M_isBroken_154, e1]
  by_cases hkc : k < za (zc τ)
  · rw [if_pos ((nIk hk (by omega)).mpr hkc), if_pos hkc, nI_1]
    cases b with
    | true => rw [if_neg bi_t0]; rfl
    | false =>
      rw [if_pos bi_f0, M_isClash hI hi (show k < 32 by omega), zb_s]
      cases zcsh (zc τ) i k with
      | false => rw [if_pos bi_f0]; rfl
      | true => rw [if_neg bi_t0]; rfl
  · rw [if_neg (fun q => hkc ((nIk hk (by omega)).mp q)), if_neg hkc, zgd_t (zbo_bi b)]
/-- pairs, by the lesser, then the greater number -/
def zprs (T : zS) (A : Nat) : Nat → Nat → Nat → Option (Nat × Nat)
  | 0, _, _ => none
  | m + 1, a, i => match zithr (zcsh T a) (A - (a + 1)) (a + 1) i with | .inl b => some (a, b) | .inr i' => zprs T A m (a + 1) i'
def oP (x2 : Int32) : Option (Nat × Nat) → Int32
  | none => -1
  | some p => if x2 = 0 then nI p.1 else nI p.2
theorem oP_0 {x2 : Int32} (a b : Nat) (h : x2 = 0) : oP x2 (some (a, b)) = nI a := if_pos h
theorem oP_1 {x2 : Int32} (a b : Nat) (h : ¬ x2 = 0) : oP x2 (some (a, b)) = nI b := if_neg h
theorem P_prs {σ T : zS} (hI : zIv T) (hR : zRC σ T) (x2 : Int32) {j : Nat} (hj : j < 2 ^ 31) : ∀ (m n a f : Nat), a + m = za T → m < n → f ≤ j → fn_P_clash_16 n (nI j) x2 (nI f) (nI a) σ = some (oP x2 (zprs T (za T) m a (j - f)), σ) := by
  have e1 : σ.1 220 0 = nI (za T) := hR.2.1.trans hI.1.2.2.1
  have hc : za T ≤ 32 := hI.1.2.2.2.1
  intro m
  induction m with
  | zero =>
    intro n a f ha hn hf
    obtain ⟨n, rfl⟩ : ∃ n', n = n' + 1 := ⟨n - 1, by omega⟩
    rw [fn_P_clash_16, e1, if_neg (fun q => by have := (nIk (show a ≤ za T by omega) (by omega)).mp q; omega)]
    rfl
  | succ m ih =>
    intro n a f ha hn hf
    obtain ⟨n, rfl⟩ : ∃ n', n = n' + 1 := ⟨n - 1, by omega⟩
    have key := zl_up (fun n9 f b => fn_P_clash_34 (fn_P_clash_16 n) n9 (nI j) x2 (nI f) (nI a) (nI b) σ) (za T) j (zcsh T a) (fun b => some (oP x2 (some (a, b)), σ)) (fun f => fn_P_clash_16 n (nI j) x2 (nI f) (nI (a + 1)) σ) (fun n9 f b hb hf => by
      show fn_P_clash_34 (fn_P_clash_16 n) (n9 + 1) (nI j) x2 (nI f) (nI a) (nI b) σ = _
      rw [fn_P_clash_34, e1]
      by_cases hbc : b < za T
      · rw [if_pos ((nIk hb (by omega)).mpr hbc), if_pos hbc, A_clashing hI hR (show a < 32 by omega) (show b < 32 by omega), zb_s, nI_1, nI_1]
        cases zcsh T a b with
        | false => rw [if_pos bi_f0]; rfl
        | true =>
          rw [if_neg bi_t0]
          by_cases e : f = j
          · rw [if_pos (show nI f = nI j by rw [e])]
            show _ = (if f = j then _ else _)
            rw [if_pos e]
            by_cases h2 : x2 = 0
            · rw [if_pos h2, oP_0 a b h2]
            · rw [if_neg h2, oP_1 a b h2]
          · rw [if_neg (fun q => e ((nI_eq (by omega) (by omega)).mp q))]
            show _ = (if f = j then _ else _)
            rw [if_neg e]
      · rw [if_neg (fun q => hbc ((nIk hb (by omega)).mp q)), if_neg hbc, nI_1]) (za T - (a + 1)) 100 f (a + 1) (by omega) (by omega) hf
    rw [fn_P_clash_16, e1, if_pos ((nIk (show a ≤ za T by omega) (by omega)).mpr (by omega)), nI_1]
    refine Eq.trans key ?_
    unfold zprs
    cases hz : zithr (zcsh T a) (za T - (a + 1)) (a + 1) (j - f) with
    | inl b => rfl
    | inr i' =>
      have hle := zithr_le hz
      show fn_P_clash_16 n (nI j) x2 (nI (j - i')) (nI (a + 1)) σ = _
      rw [ih n (a + 1) (j - i') (by omega) (by omega) (by omega), show j - (j - i') = i' by omega]
theorem M_prs {τ : zS} (hI : zIv (zc τ)) (x2 : Int32) {j : Nat} (hj : j < 2 ^ 31) : ∀ (m n a l : Nat), a + m = za (zc τ) → m < n → l ≤ j → fn_M_clash_20 n x2 (nI l) (nI a) τ = some (oP x2 (zprs (zc τ) (za (zc τ)) m a l), τ) := by
  have e1 : τ.1 701 0 = nI (za (zc τ)) := hI.1.2.2.1
  have hc : za (zc τ) ≤ 32 := hI.1.2.2.2.1
  intro m
  induction m with
  | zero =>
    intro n a l ha hn hl
    obtain ⟨n, rfl⟩ : ∃ n', n = n' + 1 := ⟨n - 1, by omega⟩
    rw [fn_M_clash_20, e1, if_neg (fun q => by have := (nIk (show a ≤ za (zc τ) by omega) (by omega)).mp q; omega)]
    rfl
  | succ m ih =>
    intro n a l ha hn hl
    obtain ⟨n, rfl⟩ : ∃ n', n = n' + 1 := ⟨n - 1, by omega⟩
    have key := zl_down (fun n9 l b => fn_M_clash_35 (fn_M_clash_20 n) n9 x2 (nI l) (nI a) (nI b) τ) (za (zc τ)) j (zcsh (zc τ) a) (fun b => some (oP x2 (some (a, b)), τ)) (fun l => fn_M_clash_20 n x2 (nI l) (nI (a + 1)) τ) (fun n9 l b hb hl => by
      show fn_M_clash_35 (fn_M_clash_20 n) (n9 + 1) x2 (nI l) (nI a) (nI b) τ = _
      rw [fn_M_clash_35, e1]
      by_cases hbc : b < za (zc τ)
      · rw [if_pos ((nIk hb (by omega)).mpr hbc), if_pos hbc, M_isClash hI (show a < 32 by omega) (show b < 32 by omega), zb_s, nI_1]
        cases zcsh (zc τ) a b with
        | false => rw [if_pos bi_f0]; rfl
        | true =>
          rw [if_neg bi_t0]
          cases l with
          | zero =>
            rw [if_pos (show nI 0 = 0 from rfl)]
            show _ = some (oP x2 (some (a, b)), τ)
            by_cases h2 : x2 = 0
            · rw [if_pos h2, oP_0 a b h2]
            · rw [if_neg h2, oP_1 a b h2]
          | succ l => rw [if_neg (nI_ne0 (by omega) (by omega)), pk_m1]; rfl
      · rw [if_neg (fun q => hbc ((nIk hb (by omega)).mp q)), if_neg hbc, nI_1]) (za (zc τ) - (a + 1)) 100 l (a + 1) (by omega) (by omega) hl
    rw [fn_M_clash_20, e1, if_pos ((nIk (show a ≤ za (zc τ) by omega) (by omega)).mpr (by omega)), nI_1]
    refine Eq.trans key ?_
    unfold zprs
    cases hz : zithr (zcsh (zc τ) a) (za (zc τ) - (a + 1)) (a + 1) l with
    | inl b => rfl
    | inr i' =>
      have hle := zithr_le hz
      exact ih n (a + 1) i' (by omega) (by omega) (by omega)
theorem zl_no2 {β : Type} (F : Nat → Nat → Nat → Option β) (c B : Nat) (P : Nat → Bool) (z : Nat → Option β)
    (h : ∀ n f k, k ≤ c → f ≤ B + k → F (n + 1) f k = if k < c then (bif P k then F n (f + 1) (k + 1) else F n f (k + 1)) else z f) :
    ∀ m n f k, k + m = c → m < n → f ≤ B + k → ∃ f', f' ≤ f + m ∧ F n f k = z f' := by
  intro m
  induction m with
  | zero =>
    intro n f k hk hn hf
    obtain ⟨n, rfl⟩ : ∃ n', n = n' + 1 := ⟨n - 1, by omega⟩
    exact ⟨f, by omega, by rw [h n f k (by omega) hf, if_neg (by omega)]⟩
  | succ m ih =>
    intro n f k hk hn hf
    obtain ⟨n, rfl⟩ : ∃ n', n = n' + 1 := ⟨n - 1, by omega⟩
    rw [h n f k (by omega) hf, if_pos (by omega)]
    cases P k with
    | false =>
      obtain ⟨f', h1, h2⟩ := ih n f (k + 1) (by omega) (by omega) (by omega)
      exact ⟨f', by omega, h2⟩
    | true =>
      obtain ⟨f', h1, h2⟩ := ih n (f + 1) (k + 1) (by omega) (by omega) (by omega)
      exact ⟨f', by omega, h2⟩
theorem P_prs_neg {σ T : zS} (hI : zIv T) (hR : zRC σ T) (x2 : Int32) {x : Int32} (hx : x < 0) : ∀ (m n a f : Nat), a + m = za T → m < n → f ≤ 40 * a → fn_P_clash_16 n x x2 (nI f) (nI a) σ = some (-1, σ) := by
  have e1 : σ.1 220 0 = nI (za T) := hR.2.1.trans hI.1.2.2.1
  have hc : za T ≤ 32 := hI.1.2.2.2.1
  intro m
  induction m with
  | zero =>
    intro n a f ha hn hf
    obtain ⟨n, rfl⟩ : ∃ n', n = n' + 1 := ⟨n - 1, by omega⟩
    rw [fn_P_clash_16, e1, if_neg (fun q => by have := (nIk (show a ≤ za T by omega) (by omega)).mp q; omega)]
  | succ m ih =>
    intro n a f ha hn hf
    obtain ⟨n, rfl⟩ : ∃ n', n = n' + 1 := ⟨n - 1, by omega⟩
    obtain ⟨f', h1, h2⟩ := zl_no2 (fun n9 f b => fn_P_clash_34 (fn_P_clash_16 n) n9 x x2 (nI f) (nI a) (nI b) σ) (za T) (40 * a) (zcsh T a) (fun f => fn_P_clash_16 n x x2 (nI f) (nI (a + 1)) σ) (fun n9 f b hb hf => by
      show fn_P_clash_34 (fn_P_clash_16 n) (n9 + 1) x x2 (nI f) (nI a) (nI b) σ = _
      rw [fn_P_clash_34, e1]
      by_cases hbc : b < za T
      · rw [if_pos ((nIk hb (by omega)).mpr hbc), if_pos hbc, A_clashing hI hR (show a < 32 by omega) (show b < 32 by omega), zb_s, nI_1, nI_1]
        cases zcsh T a b with
        | false => rw [if_pos bi_f0]; rfl
        | true => rw [if_neg bi_t0, if_neg (neg_nI hx (by omega))]; rfl
      · rw [if_neg (fun q => hbc ((nIk hb (by omega)).mp q)), if_neg hbc, nI_1]) (za T - (a + 1)) 100 f (a + 1) (by omega) (by omega) (by omega)
    rw [fn_P_clash_16, e1, if_pos ((nIk (show a ≤ za T by omega) (by omega)).mpr (by omega)), nI_1]
    refine Eq.trans h2 ?_
    exact ih n (a + 1) f' (by omega) (by omega) (by omega)
/-- promise 18 -/
theorem ok_clash {σ τ : zS} (h : zRel σ τ) (x1 x2 : Int32) : zOK (fn_P_clash x1 x2 σ) (fn_M_clash x1 x2 τ) := by
  obtain ⟨hI, hR⟩ := id h
  obtain ⟨r1, r2, r3, r4, r5, r6, r7, r8, r9, r10, r11, r12, r13, r14, r15, r16, r17, r18, r19, r20, r21, r22, r23, r24⟩ := id hR
  obtain ⟨⟨i1, i2, i3, i4, i5, i6, i7, i8⟩, I2, I3, I4, I5, I6, I7⟩ := id hI
  unfold fn_P_clash fn_M_clash
  rw [M_within, zb_s]
  by_cases hs : x2 = 0 ∨ x2 = 1
  · have hw : ¬ x2 < 0 ∧ ¬ (1 : Int32) < x2 := by rcases hs with rfl | rfl <;> decide
    have hcl : (if x2 = 0 then fn_P_clash_16 100 x1 x2 0 0 σ else if x2 = 1 then fn_P_clash_16 100 x1 x2 0 0 σ else some (-1, σ)) = fn_P_clash_16 100 x1 x2 0 0 σ := by
      rcases hs with rfl | rfl
      · rw [if_pos rfl]
      · rw [if_neg (by decide), if_pos rfl]
    rw [hcl, decide_eq_true hw, if_neg bi_t0]
    rcases nIcase x1 with hx | ⟨j, hj, rfl⟩
    · rw [if_pos hx]
      have := P_prs_neg hI hR x2 hx (za (zc τ)) 100 0 0 (by omega) (by omega) (by omega)
      exact zOK.same h this rfl
    · rw [if_neg (nI_pos hj)]
      have k1 := P_prs hI hR x2 hj (za (zc τ)) 100 0 0 (by omega) (by omega) (Nat.zero_le _)
      have k2 := M_prs hI x2 hj (za (zc τ)) 100 0 j (by omega) (by omega) (Nat.le_refl _)
      exact zOK.same h k1 k2
  · have hw : ¬ (¬ x2 < 0 ∧ ¬ (1 : Int32) < x2) := fun q => by
      obtain ⟨b, hb, rfl⟩ := nIto (b := 1) (by omega) q
      rcases (show b = 0 ∨ b = 1 by omega) with rfl | rfl
      · exact hs (Or.inl rfl)
      · exact hs (Or.inr rfl)
    rw [if_neg (fun e => hs (Or.inl e)), if_neg (fun e => hs (Or.inr e)), decide_eq_false hw, if_pos bi_f0]
    by_cases hx : x1 < 0
    · rw [if_pos hx]; exact zOK.same h rfl rfl
    · rw [if_neg hx]; exact zOK.same h rfl rfl
