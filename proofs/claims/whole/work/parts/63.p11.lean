/-! promise 16 -/
theorem and1t (y : Int32) : (y &&& 1 = 1) ↔ bt y 0 = true := by
  constructor
  · intro h
    have h2 : bt (y &&& 1) 0 = true := by rw [h]; decide
    rw [b_and, bt_1] at h2
    simpa using h2
  · intro h
    refine b_ext (fun i hi => ?_)
    rw [b_and, bt_1]
    by_cases e : i = 0
    · subst e; rw [h]; rfl
    · rw [decide_eq_false e, Bool.and_false]
theorem shr1t (v : Int32) {x : Nat} (hx : x < 32) : (zshr v (nI x) &&& 1 = 1) ↔ bt v x = true := by
  rw [and1t]
  unfold zshr
  rw [b_sshr x hx v (by omega), if_pos (by omega), Nat.add_zero]
def zdp (T : zS) (i j p : Nat) : Bool := (bt (T.1 45 i) p != bt (T.1 45 j) p) || !decide (T.2 37 (8 * i + p) = T.2 37 (8 * j + p))
def zacc (D : Nat → Bool) : Nat → Nat → Int32 → Int32
  | 0, _, x => x
  | m + 1, k, x => zacc D m (k + 1) (bif D k then x ||| zshl 1 (nI k) else x)
theorem or_0 (x : Int32) : x ||| 0 = x := b_ext (fun i _ => by rw [b_or, b_0, Bool.or_false])
theorem A_dp {σ T : zS} (hI : zIv T) (hR : zRC σ T) {i j p : Nat} (hi : i < 32) (hj : j < 32) (hp : p < 8) : fn_A_differAtPath (nI i) (nI j) (nI p) σ = some (bi (zdp T i j p), σ) := by
  obtain ⟨r1, r2, r3, r4, r5, r6, r7, r8, r9, r10, r11, r12, r13, r14, r15, r16, r17, r18, r19, r20, r21, r22, r23, r24⟩ := id hR
  unfold fn_A_differAtPath zdp
  rw [zgd_t (zin_n hi (by omega)), nIc (show i ≤ 5000 by omega), r17, P_hasBit _ (show p < 32 by omega), zb_s, zgd_t (zin_n hj (by omega)), nIc (show j ≤ 5000 by omega), r17, P_hasBit _ (show p < 32 by omega), zb_s, nI8', nI8', zgd_t (zin_n (show 8 * i + p < 256 by omega) (by omega)), zgd_t (zin_n (show 8 * j + p < 256 by omega) (by omega)), nIc (show 8 * i + p ≤ 5000 by omega), nIc (show 8 * j + p ≤ 5000 by omega), r18]
  by_cases hv : T.2 37 (8 * i + p) = T.2 37 (8 * j + p)
  · rw [if_pos ((lg_cmp_eq _ _).mpr hv), decide_eq_true hv]
    cases bt (T.1 45 i) p <;> cases bt (T.1 45 j) p <;> rfl
  · rw [if_neg (fun e => hv ((lg_cmp_eq _ _).mp e)), decide_eq_false hv]
    cases bt (T.1 45 i) p <;> cases bt (T.1 45 j) p <;> rfl
theorem P_reb {σ T : zS} (hI : zIv T) (hR : zRC σ T) {i j : Nat} (hi : i < 32) (hj : j < 32) : ∀ (m n k : Nat) (x : Int32), k + m = 8 → m < n → fn_P_rebuilt_29 n (nI i) (nI j) x (nI k) σ = some (zacc (zdp T i j) m k x, σ) := by
  intro m
  induction m with
  | zero =>
    intro n k x hk hn
    obtain ⟨n, rfl⟩ : ∃ n', n = n' + 1 := ⟨n - 1, by omega⟩
    have h8 : ¬ nI k < (8 : Int32) := fun q => by have := (nIlt (b := 8) (show k ≤ 5000 by omega) (by omega)).mp q; omega
    rw [fn_P_rebuilt_29, if_neg h8]
    rfl
  | succ m ih =>
    intro n k x hk hn
    obtain ⟨n, rfl⟩ : ∃ n', n = n' + 1 := ⟨n - 1, by omega⟩
    have h8 : nI k < (8 : Int32) := (nIlt (b := 8) (by omega) (by omega)).mpr (by omega)
    rw [fn_P_rebuilt_29, if_pos h8, A_dp hI hR hi hj (show k < 8 by omega), zb_s, nI_1]
    unfold zacc fn_P_bitIf
    cases zdp T i j k with
    | false =>
      rw [if_pos bi_f0, zb_s, or_0]
      exact ih n (k + 1) x (by omega) (by omega)
    | true =>
      rw [if_neg bi_t0, zb_s]
      exact ih n (k + 1) _ (by omega) (by omega)
theorem M_reb {τ : zS} (hI : zIv (zc τ)) {i j : Nat} (hi : i < 32) (hj : j < 32) : ∀ (m n k : Nat) (x : Int32), k + m = 8 → m < n → fn_M_rebuilt_23 n (nI i) (nI j) x (nI k) τ = some (zacc (zdp (zc τ) i j) m k x, τ) := by
  intro m
  induction m with
  | zero =>
    intro n k x hk hn
    obtain ⟨n, rfl⟩ : ∃ n', n = n' + 1 := ⟨n - 1, by omega⟩
    have h8 : ¬ nI k < (8 : Int32) := fun q => by have := (nIlt (b := 8) (show k ≤ 5000 by omega) (by omega)).mp q; omega
    rw [fn_M_rebuilt_23, if_neg h8]
    rfl
  | succ m ih =>
    intro n k x hk hn
    obtain ⟨n, rfl⟩ : ∃ n', n = n' + 1 := ⟨n - 1, by omega⟩
    have h8 : nI k < (8 : Int32) := (nIlt (b := 8) (by omega) (by omega)).mpr (by omega)
    have I7 := hI.2.2.2.2.2.2
    have f1 : bt (τ.1 45 i) k = false → τ.2 37 (8 * i + k) = 0 := I7 i k hi (by omega)
    have f2 : bt (τ.1 45 j) k = false → τ.2 37 (8 * j + k) = 0 := I7 j k hj (by omega)
    have hz : zdp (zc τ) i j k = ((bt (τ.1 45 i) k != bt (τ.1 45 j) k) || !decide (τ.2 37 (8 * i + k) = τ.2 37 (8 * j + k))) := rfl
    have ihN := ih n (k + 1) x (by omega) (by omega)
    have ihY := ih n (k + 1) (x ||| zshl 1 (nI k)) (by omega) (by omega)
    rw [fn_M_rebuilt_23, if_pos h8, zgd_t (zin_n hi (by omega)), nIc (show i ≤ 5000 by omega)]
    unfold zacc
    rw [hz]
    unfold fn_M_rebuilt_50 fn_M_rebuilt_72
    simp only [zgd_t (zin_n hj (show (32 : Nat) ≤ 5000 by omega)), nIc (show j ≤ 5000 by omega), nI8, zgd_t (zin_n (show 8 * i + k < 256 by omega) (show (256 : Nat) ≤ 5000 by omega)), zgd_t (zin_n (show 8 * j + k < 256 by omega) (show (256 : Nat) ≤ 5000 by omega)), nIc (show 8 * i + k ≤ 5000 by omega), nIc (show 8 * j + k ≤ 5000 by omega), nI_1, shr1t _ (show k < 32 by omega), lg_cmp_eq]
    cases h1 : bt (τ.1 45 i) k with
    | false =>
      cases h2 : bt (τ.1 45 j) k with
      | false =>
        rw [f1 h1, f2 h2]
        exact ihN
      | true => exact ihY
    | true =>
      cases h2 : bt (τ.1 45 j) k with
      | false => exact ihY
      | true =>
        by_cases hv : τ.2 37 (8 * i + k) = τ.2 37 (8 * j + k)
        · simp only [hv]
          exact ihN
        · simp only [hv]
          exact ihY
/-- promise 16 -/
theorem ok_rebuilt {σ τ : zS} (h : zRel σ τ) (x1 x2 : Int32) : zOK (fn_P_rebuilt x1 x2 σ) (fn_M_rebuilt x1 x2 τ) := by
  obtain ⟨hI, hR⟩ := id h
  obtain ⟨r1, r2, r3, r4, r5, r6, r7, r8, r9, r10, r11, r12, r13, r14, r15, r16, r17, r18, r19, r20, r21, r22, r23, r24⟩ := id hR
  obtain ⟨⟨i1, i2, i3, i4, i5, i6, i7, i8⟩, I2, I3, I4, I5, I6, I7⟩ := id hI
  unfold fn_P_rebuilt fn_M_rebuilt
  rw [A_has hI hR, zb_s, M_isArt hI, zb_s, A_has hI hR, zb_s, M_isArt hI, zb_s]
  by_cases hg : ∃ j : Nat, j < za (zc τ) ∧ x1 = nI j
  · rw [decide_eq_true hg, if_neg bi_t0, if_neg bi_t0]
    obtain ⟨i, hi, rfl⟩ := hg
    by_cases hg2 : ∃ j : Nat, j < za (zc τ) ∧ x2 = nI j
    · rw [decide_eq_true hg2, if_neg bi_t0, if_neg bi_t0]
      obtain ⟨j, hj, rfl⟩ := hg2
      have k1 := P_reb hI hR (i := i) (j := j) (by omega) (by omega) 8 100 0 0 (by omega) (by omega)
      have k2 := M_reb hI (i := i) (j := j) (by omega) (by omega) 8 100 0 0 (by omega) (by omega)
      exact zOK.same h k1 k2
    · rw [decide_eq_false hg2, if_pos bi_f0, if_pos bi_f0]
      exact zOK.same h rfl rfl
  · rw [decide_eq_false hg, if_pos bi_f0, if_pos bi_f0]
    exact zOK.same h rfl rfl
/-! promise 17 -/
def zsu (T : zS) (i j : Nat) : Bool := decide (uc T i = uc T j) && zall (fun k => zany (fun q => decide (T.1 43 (6 * j + q) = T.1 43 (6 * i + k))) (uc T j) 0) (uc T i) 0
def zsn (T : zS) (i j : Nat) : Bool := decide (nc T i = nc T j) && zall (fun k => zany (fun q => decide (T.2 36 (6 * j + q) = T.2 36 (6 * i + k))) (nc T j) 0) (nc T i) 0
theorem W_sets_u {σ T : zS} (hI : zIv T) (hR : zRC σ T) {i j : Nat} (hi : i < 32) (hj : j < 32) : fn_W_sameAsSets_u (nI i) (nI j) σ = some (bi (zsu T i j), σ) := by
  obtain ⟨r1, r2, r3, r4, r5, r6, r7, r8, r9, r10, r11, r12, r13, r14, r15, r16, r17, r18, r19, r20, r21, r22, r23, r24⟩ := id hR
  have e1 : σ.1 13 i = nI (uc T i) := by rw [r13]; exact (hI.2.1 i hi).1
  have e2 : σ.1 13 j = nI (uc T j) := by rw [r13]; exact (hI.2.1 j hj).1
  have hc : uc T i ≤ 6 := (hI.2.1 i hi).2.1
  have hc2 : uc T j ≤ 6 := (hI.2.1 j hj).2.1
  have hP : zsu T i j = (decide (uc T i = uc T j) && zall (fun k => zany (fun q => decide (σ.2 14 (6 * j + q) = σ.2 14 (6 * i + k))) (uc T j) 0) (uc T i) 0) := by
    unfold zsu
    congr 1
    refine zall_congr (fun k _ _ => zany_congr (fun q _ _ => ?_))
    rw [r14, r14]; exact decide_eq_decide.mpr i64_inj.symm
  unfold fn_W_sameAsSets_u
  rw [zgd_t (zin_n hi (by omega)), zgd_t (zin_n hj (by omega)), nIc (show i ≤ 5000 by omega), nIc (show j ≤ 5000 by omega), e1, e2, hP]
  by_cases hcc : uc T i = uc T j
  · rw [if_pos (by rw [hcc]), decide_eq_true hcc, Bool.true_and]
    refine zl_allf (fun n k => fn_W_sameAsSets_u_19 n (nI i) (nI j) (nI k) σ) (uc T i) _ (fun n k hk => ?_) 100 (by omega)
    show fn_W_sameAsSets_u_19 (n + 1) (nI i) (nI j) (nI k) σ = _
    rw [fn_W_sameAsSets_u_19, zgd_t (zin_n hi (by omega)), nIc (show i ≤ 5000 by omega), e1]
    by_cases hkc : k < uc T i
    · rw [if_pos ((nIk hk (by omega)).mpr hkc), if_pos hkc]
      unfold fn_W_valueAt_u
      rw [nI6', zgd_t (zin_n (show 6 * i + k < 192 by omega) (by omega)), nIc (show 6 * i + k ≤ 5000 by omega), zb_s, W_contains_u hI hR hj, zb_s, nI_1]
      cases zany (fun q => decide (σ.2 14 (6 * j + q) = σ.2 14 (6 * i + k))) (uc T j) 0 with
      | false => rw [if_pos bi_f0]; rfl
      | true => rw [if_neg bi_t0]; rfl
    · rw [if_neg (fun q => hkc ((nIk hk (by omega)).mp q)), if_neg hkc]
  · rw [if_neg (fun e => hcc ((nIeq (by omega) (by omega)).mp e)), decide_eq_false hcc]; rfl
theorem W_sets_n {σ T : zS} (hI : zIv T) (hR : zRC σ T) {i j : Nat} (hi : i < 32) (hj : j < 32) : fn_W_sameAsSets_n (nI i) (nI j) σ = some (bi (zsn T i j), σ) := by
  obtain ⟨r1, r2, r3, r4, r5, r6, r7, r8, r9, r10, r11, r12, r13, r14, r15, r16, r17, r18, r19, r20, r21, r22, r23, r24⟩ := id hR
  have e1 : σ.1 16 i = nI (nc T i) := by rw [r15]; exact (hI.2.1 i hi).2.2.1
  have e2 : σ.1 16 j = nI (nc T j) := by rw [r15]; exact (hI.2.1 j hj).2.2.1
  have hc : nc T i ≤ 6 := (hI.2.1 i hi).2.2.2.1
  have hc2 : nc T j ≤ 6 := (hI.2.1 j hj).2.2.2.1
  have hP : zsn T i j = (decide (nc T i = nc T j) && zall (fun k => zany (fun q => decide (σ.2 17 (6 * j + q) = σ.2 17 (6 * i + k))) (nc T j) 0) (nc T i) 0) := by
    unfold zsn
    congr 1
    refine zall_congr (fun k _ _ => zany_congr (fun q _ _ => ?_))
    rw [r16]
  unfold fn_W_sameAsSets_n
  rw [zgd_t (zin_n hi (by omega)), zgd_t (zin_n hj (by omega)), nIc (show i ≤ 5000 by omega), nIc (show j ≤ 5000 by omega), e1, e2, hP]
  by_cases hcc : nc T i = nc T j
  · rw [if_pos (by rw [hcc]), decide_eq_true hcc, Bool.true_and]
    refine zl_allf (fun n k => fn_W_sameAsSets_n_19 n (nI i) (nI j) (nI k) σ) (nc T i) _ (fun n k hk => ?_) 100 (by omega)
    show fn_W_sameAsSets_n_19 (n + 1) (nI i) (nI j) (nI k) σ = _
    rw [fn_W_sameAsSets_n_19, zgd_t (zin_n hi (by omega)), nIc (show i ≤ 5000 by omega), e1]
    by_cases hkc : k < nc T i
    · rw [if_pos ((nIk hk (by omega)).mpr hkc), if_pos hkc]
      unfold fn_W_valueAt_n
      rw [nI6', zgd_t (zin_n (show 6 * i + k < 192 by omega) (by omega)), nIc (show 6 * i + k ≤ 5000 by omega), zb_s, W_contains_n hI hR hj, zb_s, nI_1]
      cases zany (fun q => decide (σ.2 17 (6 * j + q) = σ.2 17 (6 * i + k))) (nc T j) 0 with
      | false => rw [if_pos bi_f0]; rfl
      | true => rw [if_neg bi_t0]; rfl
    · rw [if_neg (fun q => hkc ((nIk hk (by omega)).mp q)), if_neg hkc]
  · rw [if_neg (fun e => hcc ((nIeq (by omega) (by omega)).mp e)), decide_eq_false hcc]; rfl
theorem M_sameSources {τ : zS} (hI : zIv (zc τ)) {i j : Nat} (hi : i < 32) (hj : j < 32) : fn_M_sameSources (nI i) (nI j) τ = some (bi (zsu (zc τ) i j), τ) := by
  have e1 : τ.1 42 i = nI (uc (zc τ) i) := (hI.2.1 i hi).1
  have e2 : τ.1 42 j = nI (uc (zc τ) j) := (hI.2.1 j hj).1
  have hc : uc (zc τ) i ≤ 6 := (hI.2.1 i hi).2.1
  have hc2 : uc (zc τ) j ≤ 6 := (hI.2.1 j hj).2.1
  have key : ∀ b : Bool, fn_M_sameSources_24 100 (nI i) (nI j) (bi b) 0 τ = some (bi (b && zall (fun k => zany (fun q => decide ((zc τ).1 43 (6 * j + q) = (zc τ).1 43 (6 * i + k))) (uc (zc τ) j) 0) (uc (zc τ) i) 0), τ) := fun b =>
    zl_hall (fun n b k => fn_M_sameSources_24 n (nI i) (nI j) (bi b) (nI k) τ) (uc (zc τ) i) (fun k => zany (fun q => decide ((zc τ).1 43 (6 * j + q) = (zc τ).1 43 (6 * i + k))) (uc (zc τ) j) 0) (fun n b k hk => by
      show fn_M_sameSources_24 (n + 1) (nI i) (nI j) (bi b) (nI k) τ = _
      rw [fn_M_sameSources_24, zgd_t (zin_n hi (by omega)), nIc (show i ≤ 5000 by omega), e1]
      by_cases hkc : k < uc (zc τ) i
      · rw [if_pos ((nIk hk (by omega)).mpr hkc), if_pos hkc]
        cases b with
        | false => rw [if_pos bi_f0, zgd_t (zbo_bi false)]; rfl
        | true =>
          rw [if_neg bi_t0, nI6, zgd_t (zin_n (show 6 * i + k < 192 by omega) (by omega)), nIc (show 6 * i + k ≤ 5000 by omega), M_hasUse hI hj, zb_s, nI_1]
          rfl
      · rw [if_neg (fun q => hkc ((nIk hk (by omega)).mp q)), if_neg hkc, zgd_t (zbo_bi b)]) b 100 (by omega)
  have k0 : fn_M_sameSources_24 100 (nI i) (nI j) 0 0 τ = _ := key false
  have k1 : fn_M_sameSources_24 100 (nI i) (nI j) 1 0 τ = _ := key true
  unfold fn_M_sameSources zsu
  rw [zgd_t (zin_n hi (by omega)), zgd_t (zin_n hj (by omega)), nIc (show i ≤ 5000 by omega), nIc (show j ≤ 5000 by omega), e1, e2, k0, k1]
  by_cases hcc : uc (zc τ) i = uc (zc τ) j
  · rw [if_pos (by rw [hcc]), decide_eq_true hcc]
  · rw [if_neg (fun e => hcc ((nIeq (by omega) (by omega)).mp e)), decide_eq_false hcc]
theorem M_sameNeeds {τ : zS} (hI : zIv (zc τ)) {i j : Nat} (hi : i < 32) (hj : j < 32) : fn_M_sameNeeds (nI i) (nI j) τ = some (bi (zsn (zc τ) i j), τ) := by
  have e1 : τ.1 44 i = nI (nc (zc τ) i) := (hI.2.1 i hi).2.2.1
  have e2 : τ.1 44 j = nI (nc (zc τ) j) := (hI.2.1 j hj).2.2.1
  have hc : nc (zc τ) i ≤ 6 := (hI.2.1 i hi).2.2.2.1
  have hc2 : nc (zc τ) j ≤ 6 := (hI.2.1 j hj).2.2.2.1
  have key : ∀ b : Bool, fn_M_sameNeeds_24 100 (nI i) (nI j) (bi b) 0 τ = some (bi (b && zall (fun k => zany (fun q => decide ((zc τ).2 36 (6 * j + q) = (zc τ).2 36 (6 * i + k))) (nc (zc τ) j) 0) (nc (zc τ) i) 0), τ) := fun b =>
    zl_hall (fun n b k => fn_M_sameNeeds_24 n (nI i) (nI j) (bi b) (nI k) τ) (nc (zc τ) i) (fun k => zany (fun q => decide ((zc τ).2 36 (6 * j + q) = (zc τ).2 36 (6 * i + k))) (nc (zc τ) j) 0) (fun n b k hk => by
      show fn_M_sameNeeds_24 (n + 1) (nI i) (nI j) (bi b) (nI k) τ = _
      rw [fn_M_sameNeeds_24, zgd_t (zin_n hi (by omega)), nIc (show i ≤ 5000 by omega), e1]
      by_cases hkc : k < nc (zc τ) i
      · rw [if_pos ((nIk hk (by omega)).mpr hkc), if_pos hkc]
        cases b with
        | false => rw [if_pos bi_f0, zgd_t (zbo_bi false)]; rfl
        | true =>
          rw [if_neg bi_t0, nI6, zgd_t (zin_n (show 6 * i + k < 192 by omega) (by omega)), nIc (show 6 * i + k ≤ 5000 by omega), M_hasNeed hI hj, zb_s, nI_1]
          rfl
      · rw [if_neg (fun q => hkc ((nIk hk (by omega)).mp q)), if_neg hkc, zgd_t (zbo_bi b)]) b 100 (by omega)
  have k0 : fn_M_sameNeeds_24 100 (nI i) (nI j) 0 0 τ = _ := key false
  have k1 : fn_M_sameNeeds_24 100 (nI i) (nI j) 1 0 τ = _ := key true
  unfold fn_M_sameNeeds zsn
  rw [zgd_t (zin_n hi (by omega)), zgd_t (zin_n hj (by omega)), nIc (show i ≤ 5000 by omega), nIc (show j ≤ 5000 by omega), e1, e2, k0, k1]
  by_cases hcc : nc (zc τ) i = nc (zc τ) j
  · rw [if_pos (by rw [hcc]), decide_eq_true hcc]
  · rw [if_neg (fun e => hcc ((nIeq (by omega) (by omega)).mp e)), decide_eq_false hcc]
theorem P_bitIf (b : Bool) (x : Int32) (σ : zS) : fn_P_bitIf (bi b) x σ = some (bif b then zshl 1 x else 0, σ) := by
  unfold fn_P_bitIf
  cases b with
  | false => rw [if_pos bi_f0]; rfl
  | true => rw [if_neg bi_t0]; rfl
/-- the class's bits, the reference's sum -/
def zor7 (b0 b1 b2 b3 b4 b5 b6 : Bool) : Int32 := ((((((bif b0 then zshl 1 0 else 0) ||| (bif b1 then zshl 1 1 else 0)) ||| (bif b2 then zshl 1 2 else 0)) ||| (bif b3 then zshl 1 3 else 0)) ||| (bif b4 then zshl 1 4 else 0)) ||| (bif b5 then zshl 1 5 else 0)) ||| (bif b6 then zshl 1 6 else 0)
def zsum7 (b0 b1 b2 b3 b4 b5 b6 : Bool) : Int32 := ((((((bif b0 then 1 else 0) + (bif b1 then 2 else 0)) + (bif b2 then 4 else 0)) + (bif b3 then 8 else 0)) + (bif b4 then 16 else 0)) + (bif b5 then 32 else 0)) + (bif b6 then 64 else 0)
theorem zor_sum : ∀ b0 b1 b2 b3 b4 b5 b6 : Bool, zor7 b0 b1 b2 b3 b4 b5 b6 = zsum7 b0 b1 b2 b3 b4 b5 b6 := by decide +kernel
theorem P_diff {σ T : zS} (hI : zIv T) (hR : zRC σ T) {i j : Nat} (hi : i < 32) (hj : j < 32) : (zgd (zin (nI i) 32) (zgd (zin (nI j) 32) (if (lg_cmp (σ.2 7 (nI i).toNatClampNeg) (σ.2 7 (nI j).toNatClampNeg)) = 0 then fn_P_differ_51 (nI i) (nI j) 0 σ else fn_P_differ_51 (nI i) (nI j) 1 σ))) = some (zor7 (!decide (T.2 35 i = T.2 35 j)) (!decide (T.1 38 i = T.1 38 j)) (!decide (T.1 39 i = T.1 39 j)) (!decide (T.1 40 i = T.1 40 j)) (!decide (T.1 41 i = T.1 41 j)) (!zsu T i j) (!zsn T i j), σ) := by
  obtain ⟨r1, r2, r3, r4, r5, r6, r7, r8, r9, r10, r11, r12, r13, r14, r15, r16, r17, r18, r19, r20, r21, r22, r23, r24⟩ := id hR
  have z1 : ∀ e : Option (Int32 × zS), zgd (zin (nI i) 32) e = e := fun e => zgd_t (zin_n hi (by omega))
  have z2 : ∀ e : Option (Int32 × zS), zgd (zin (nI j) 32) e = e := fun e => zgd_t (zin_n hj (by omega))
  have hif : ∀ (c : Prop) (inst : Decidable c) (f : Int32 → Option (Int32 × zS)), (if c then f 0 else f 1) = f (bi (!decide c)) := fun c inst f => by
    by_cases h : c
    · rw [if_pos h, decide_eq_true h]; rfl
    · rw [if_neg h, decide_eq_false h]; rfl
  have hif2 : ∀ (b : Bool) (f : Int32 → Option (Int32 × zS)), (if bi b = 0 then f 1 else f 0) = f (bi (!b)) := fun b f => by
    cases b with
    | false => rw [if_pos bi_f0]; rfl
    | true => rw [if_neg bi_t0]; rfl
  have d224 : ∀ (y0 : Bool) (y1 : Int32), fn_P_differ_224 (bi y0) y1 σ = some (y1 ||| (bif y0 then zshl 1 6 else 0), σ) := fun y0 y1 => by
    unfold fn_P_differ_224
    rw [P_bitIf, zb_s]
  have d199 : ∀ (y0 : Bool) (y1 : Int32), fn_P_differ_199 (nI i) (nI j) (bi y0) y1 σ = some ((y1 ||| (bif y0 then zshl 1 5 else 0)) ||| (bif !zsn T i j then zshl 1 6 else 0), σ) := fun y0 y1 => by
    unfold fn_P_differ_199
    rw [P_bitIf, zb_s, W_sets_n hI hR hi hj, zb_s, hif2 _ (fun z => fn_P_differ_224 z (y1 ||| (bif y0 then zshl 1 5 else 0)) σ), d224]
  have d174 : ∀ (y0 : Bool) (y1 : Int32), fn_P_differ_174 (nI i) (nI j) (bi y0) y1 σ = some (((y1 ||| (bif y0 then zshl 1 4 else 0)) ||| (bif !zsu T i j then zshl 1 5 else 0)) ||| (bif !zsn T i j then zshl 1 6 else 0), σ) := fun y0 y1 => by
    unfold fn_P_differ_174
    rw [P_bitIf, zb_s, W_sets_u hI hR hi hj, zb_s, hif2 _ (fun z => fn_P_differ_199 (nI i) (nI j) z (y1 ||| (bif y0 then zshl 1 4 else 0)) σ), d199]
  have d143 : ∀ (y0 : Bool) (y1 : Int32), fn_P_differ_143 (nI i) (nI j) (bi y0) y1 σ = some (((((y1 ||| (bif y0 then zshl 1 3 else 0)) ||| (bif !decide (T.1 41 i = T.1 41 j) then zshl 1 4 else 0)) ||| (bif !zsu T i j then zshl 1 5 else 0)) ||| (bif !zsn T i j then zshl 1 6 else 0)), σ) := fun y0 y1 => by
    unfold fn_P_differ_143
    rw [P_bitIf, zb_s, z1, z2, nIc (show i ≤ 5000 by omega), nIc (show j ≤ 5000 by omega), r12, hif _ _ (fun z => fn_P_differ_174 (nI i) (nI j) z (y1 ||| (bif y0 then zshl 1 3 else 0)) σ), d174]
  have d112 : ∀ (y0 : Bool) (y1 : Int32), fn_P_differ_112 (nI i) (nI j) (bi y0) y1 σ = some ((((((y1 ||| (bif y0 then zshl 1 2 else 0)) ||| (bif !decide (T.1 40 i = T.1 40 j) then zshl 1 3 else 0)) ||| (bif !decide (T.1 41 i = T.1 41 j) then zshl 1 4 else 0)) ||| (bif !zsu T i j then zshl 1 5 else 0)) ||| (bif !zsn T i j then zshl 1 6 else 0)), σ) := fun y0 y1 => by
    unfold fn_P_differ_112
    rw [P_bitIf, zb_s, z1, z2, nIc (show i ≤ 5000 by omega), nIc (show j ≤ 5000 by omega), r11, hif _ _ (fun z => fn_P_differ_143 (nI i) (nI j) z (y1 ||| (bif y0 then zshl 1 2 else 0)) σ), d143]
  have d81 : ∀ (y0 : Bool) (y1 : Int32), fn_P_differ_81 (nI i) (nI j) (bi y0) y1 σ = some (((((((y1 ||| (bif y0 then zshl 1 1 else 0)) ||| (bif !decide (T.1 39 i = T.1 39 j) then zshl 1 2 else 0)) ||| (bif !decide (T.1 40 i = T.1 40 j) then zshl 1 3 else 0)) ||| (bif !decide (T.1 41 i = T.1 41 j) then zshl 1 4 else 0)) ||| (bif !zsu T i j then zshl 1 5 else 0)) ||| (bif !zsn T i j then zshl 1 6 else 0)), σ) := fun y0 y1 => by
    unfold fn_P_differ_81
    rw [P_bitIf, zb_s, z1, z2, nIc (show i ≤ 5000 by omega), nIc (show j ≤ 5000 by omega), r10, hif _ _ (fun z => fn_P_differ_112 (nI i) (nI j) z (y1 ||| (bif y0 then zshl 1 1 else 0)) σ), d112]
  have d51 : ∀ y0 : Bool, fn_P_differ_51 (nI i) (nI j) (bi y0) σ = some ((((((((bif y0 then zshl 1 0 else 0) ||| (bif !decide (T.1 38 i = T.1 38 j) then zshl 1 1 else 0)) ||| (bif !decide (T.1 39 i = T.1 39 j) then zshl 1 2 else 0)) ||| (bif !decide (T.1 40 i = T.1 40 j) then zshl 1 3 else 0)) ||| (bif !decide (T.1 41 i = T.1 41 j) then zshl 1 4 else 0)) ||| (bif !zsu T i j then zshl 1 5 else 0)) ||| (bif !zsn T i j then zshl 1 6 else 0)), σ) := fun y0 => by
    unfold fn_P_differ_51
    rw [P_bitIf, zb_s, z1, z2, nIc (show i ≤ 5000 by omega), nIc (show j ≤ 5000 by omega), r9, hif _ _ (fun z => fn_P_differ_81 (nI i) (nI j) z (bif y0 then zshl 1 0 else 0) σ), d81]
  rw [z1, z2, nIc (show i ≤ 5000 by omega), nIc (show j ≤ 5000 by omega), r8, hif _ _ (fun z => fn_P_differ_51 (nI i) (nI j) z σ), d51]
  have hd : decide (lg_cmp (T.2 35 i) (T.2 35 j) = 0) = decide (T.2 35 i = T.2 35 j) := decide_eq_decide.mpr (lg_cmp_eq _ _)
  rw [hd]
  rfl
theorem M_diff {τ : zS} (hI : zIv (zc τ)) {i j : Nat} (hi : i < 32) (hj : j < 32) : (zgd (zin (nI i) 32) (zgd (zin (nI j) 32) (if (lg_cmp (τ.2 35 (nI i).toNatClampNeg) (τ.2 35 (nI j).toNatClampNeg)) = 0 then fn_M_differ_39 (nI i) (nI j) 0 τ else fn_M_differ_39 (nI i) (nI j) 1 τ))) = some (zsum7 (!decide ((zc τ).2 35 i = (zc τ).2 35 j)) (!decide ((zc τ).1 38 i = (zc τ).1 38 j)) (!decide ((zc τ).1 39 i = (zc τ).1 39 j)) (!decide ((zc τ).1 40 i = (zc τ).1 40 j)) (!decide ((zc τ).1 41 i = (zc τ).1 41 j)) (!zsu (zc τ) i j) (!zsn (zc τ) i j), τ) := by
  have z1 : ∀ e : Option (Int32 × zS), zgd (zin (nI i) 32) e = e := fun e => zgd_t (zin_n hi (by omega))
  have z2 : ∀ e : Option (Int32 × zS), zgd (zin (nI j) 32) e = e := fun e => zgd_t (zin_n hj (by omega))
  have hif : ∀ (c : Prop) (inst : Decidable c) (v : Int32) (f : Int32 → Option (Int32 × zS)), (if c then f 0 else f v) = f (bif !decide c then v else 0) := fun c inst v f => by
    by_cases h : c
    · rw [if_pos h, decide_eq_true h]; rfl
    · rw [if_neg h, decide_eq_false h]; rfl
  have hif2 : ∀ (b : Bool) (v : Int32) (f : Int32 → Option (Int32 × zS)), (if bi b = 0 then f v else f 0) = f (bif !b then v else 0) := fun b v f => by
    cases b with
    | false => rw [if_pos bi_f0]; rfl
    | true => rw [if_neg bi_t0]; rfl
  have d150 : ∀ y0 y1 : Int32, fn_M_differ_150 (nI i) (nI j) y0 y1 τ = some (((y1 + y0) + (bif !zsn (zc τ) i j then 64 else 0)), τ) := fun y0 y1 => by
    unfold fn_M_differ_150
    rw [M_sameNeeds hI hi hj, zb_s, hif2 _ 64 (fun z => some ((y1 + y0) + z, τ))]
  have d132 : ∀ y0 y1 : Int32, fn_M_differ_132 (nI i) (nI j) y0 y1 τ = some ((((y1 + y0) + (bif !zsu (zc τ) i j then 32 else 0)) + (bif !zsn (zc τ) i j then 64 else 0)), τ) := fun y0 y1 => by
    unfold fn_M_differ_132
    rw [M_sameSources hI hi hj, zb_s, hif2 _ 32 (fun z => fn_M_differ_150 (nI i) (nI j) z (y1 + y0) τ), d150]
  have d108 : ∀ y0 y1 : Int32, fn_M_differ_108 (nI i) (nI j) y0 y1 τ = some (((((y1 + y0) + (bif !decide ((zc τ).1 41 i = (zc τ).1 41 j) then 16 else 0)) + (bif !zsu (zc τ) i j then 32 else 0)) + (bif !zsn (zc τ) i j then 64 else 0)), τ) := fun y0 y1 => by
    unfold fn_M_differ_108
    rw [z1, z2, nIc (show i ≤ 5000 by omega), nIc (show j ≤ 5000 by omega), hif _ _ 16 (fun z => fn_M_differ_132 (nI i) (nI j) z (y1 + y0) τ), d132]
    rfl
  have d84 : ∀ y0 y1 : Int32, fn_M_differ_84 (nI i) (nI j) y0 y1 τ = some ((((((y1 + y0) + (bif !decide ((zc τ).1 40 i = (zc τ).1 40 j) then 8 else 0)) + (bif !decide ((zc τ).1 41 i = (zc τ).1 41 j) then 16 else 0)) + (bif !zsu (zc τ) i j then 32 else 0)) + (bif !zsn (zc τ) i j then 64 else 0)), τ) := fun y0 y1 => by
    unfold fn_M_differ_84
    rw [z1, z2, nIc (show i ≤ 5000 by omega), nIc (show j ≤ 5000 by omega), hif _ _ 8 (fun z => fn_M_differ_108 (nI i) (nI j) z (y1 + y0) τ), d108]
    rfl
  have d61 : ∀ y0 y1 : Int32, fn_M_differ_61 (nI i) (nI j) y0 y1 τ = some (((((((y1 + y0) + (bif !decide ((zc τ).1 39 i = (zc τ).1 39 j) then 4 else 0)) + (bif !decide ((zc τ).1 40 i = (zc τ).1 40 j) then 8 else 0)) + (bif !decide ((zc τ).1 41 i = (zc τ).1 41 j) then 16 else 0)) + (bif !zsu (zc τ) i j then 32 else 0)) + (bif !zsn (zc τ) i j then 64 else 0)), τ) := fun y0 y1 => by
    unfold fn_M_differ_61
    rw [z1, z2, nIc (show i ≤ 5000 by omega), nIc (show j ≤ 5000 by omega), hif _ _ 4 (fun z => fn_M_differ_84 (nI i) (nI j) z (y1 + y0) τ), d84]
    rfl
  have d39 : ∀ y0 : Int32, fn_M_differ_39 (nI i) (nI j) y0 τ = some (((((((y0 + (bif !decide ((zc τ).1 38 i = (zc τ).1 38 j) then 2 else 0)) + (bif !decide ((zc τ).1 39 i = (zc τ).1 39 j) then 4 else 0)) + (bif !decide ((zc τ).1 40 i = (zc τ).1 40 j) then 8 else 0)) + (bif !decide ((zc τ).1 41 i = (zc τ).1 41 j) then 16 else 0)) + (bif !zsu (zc τ) i j then 32 else 0)) + (bif !zsn (zc τ) i j then 64 else 0)), τ) := fun y0 => by
    unfold fn_M_differ_39
    rw [z1, z2, nIc (show i ≤ 5000 by omega), nIc (show j ≤ 5000 by omega), hif _ _ 2 (fun z => fn_M_differ_61 (nI i) (nI j) z y0 τ), d61]
    rfl
  rw [z1, z2, nIc (show i ≤ 5000 by omega), nIc (show j ≤ 5000 by omega), hif _ _ 1 (fun z => fn_M_differ_39 (nI i) (nI j) z τ), d39]
  have hd : decide (lg_cmp (τ.2 35 i) (τ.2 35 j) = 0) = decide ((zc τ).2 35 i = (zc τ).2 35 j) := decide_eq_decide.mpr (lg_cmp_eq _ _)
  rw [hd]
  rfl
/-- promise 17 -/
theorem ok_differ {σ τ : zS} (h : zRel σ τ) (x1 x2 : Int32) : zOK (fn_P_differ x1 x2 σ) (fn_M_differ x1 x2 τ) := by
  obtain ⟨hI, hR⟩ := id h
  obtain ⟨r1, r2, r3, r4, r5, r6, r7, r8, r9, r10, r11, r12, r13, r14, r15, r16, r17, r18, r19, r20, r21, r22, r23, r24⟩ := id hR
  obtain ⟨⟨i1, i2, i3, i4, i5, i6, i7, i8⟩, I2, I3, I4, I5, I6, I7⟩ := id hI
  unfold fn_P_differ fn_M_differ
  rw [A_has hI hR, zb_s, M_isArt hI, zb_s, A_has hI hR, zb_s, M_isArt hI, zb_s]
  by_cases hg : ∃ j : Nat, j < za (zc τ) ∧ x1 = nI j
  · rw [decide_eq_true hg, if_neg bi_t0, if_neg bi_t0]
    obtain ⟨i, hi, rfl⟩ := hg
    by_cases hg2 : ∃ j : Nat, j < za (zc τ) ∧ x2 = nI j
    · rw [decide_eq_true hg2, if_neg bi_t0, if_neg bi_t0]
      obtain ⟨j, hj, rfl⟩ := hg2
      have k1 := P_diff hI hR (i := i) (j := j) (by omega) (by omega)
      have k2 := M_diff hI (i := i) (j := j) (by omega) (by omega)
      rw [zor_sum] at k1
      exact zOK.same h k1 k2
    · rw [decide_eq_false hg2, if_pos bi_f0, if_pos bi_f0]
      exact zOK.same h rfl rfl
  · rw [decide_eq_false hg, if_pos bi_f0, if_pos bi_f0]
    exact zOK.same h rfl rfl
