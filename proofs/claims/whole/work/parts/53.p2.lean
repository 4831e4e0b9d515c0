/-! loops in the forms that occur -/
theorem zl_anyf {σ : zS} (F : Nat → Nat → Option (Int32 × zS)) (c : Nat) (P : Nat → Bool)
    (h : ∀ n k, k ≤ c → F (n + 1) k = if k < c then (bif P k then some (1, σ) else F n (k + 1)) else some (0, σ)) (n : Nat) (hn : c < n) : F n 0 = some (bi (zany P c 0), σ) := by
  have key := zl_fst F c P (fun _ => some (1, σ)) (some (0, σ)) h c n 0 (by omega) hn
  refine key.trans ((zany_fst (P := P) (some ((1 : Int32), σ)) (some ((0 : Int32), σ)) c 0).trans ?_)
  cases zany P c 0 <;> rfl
theorem zl_allf {σ : zS} (F : Nat → Nat → Option (Int32 × zS)) (c : Nat) (P : Nat → Bool)
    (h : ∀ n k, k ≤ c → F (n + 1) k = if k < c then (bif P k then F n (k + 1) else some (0, σ)) else some (1, σ)) (n : Nat) (hn : c < n) : F n 0 = some (bi (zall P c 0), σ) := by
  have key := zl_fst F c (fun j => !P j) (fun _ => some (0, σ)) (some (1, σ)) (fun n k hk => by
    rw [h n k hk]
    cases P k <;> rfl) c n 0 (by omega) hn
  refine key.trans ((zall_fst (P := P) (some ((1 : Int32), σ)) (some ((0 : Int32), σ)) c 0).trans ?_)
  cases zall P c 0 <;> rfl
theorem zl_find {σ : zS} (F : Nat → Nat → Option (Int32 × zS)) (c : Nat) (P : Nat → Bool)
    (h : ∀ n k, k ≤ c → F (n + 1) k = if k < c then (bif P k then some (nI k, σ) else F n (k + 1)) else some (-1, σ)) (n : Nat) (hn : c < n) : F n 0 = some (oI (zfst P c 0), σ) := by
  have key := zl_fst F c P (fun j => some (nI j, σ)) (some (-1, σ)) h c n 0 (by omega) hn
  refine key.trans ?_
  cases zfst P c 0 <;> rfl
theorem zl_has {σ : zS} (F : Nat → Bool → Nat → Option (Int32 × zS)) (c : Nat) (P : Nat → Bool)
    (h : ∀ n b k, k ≤ c → F (n + 1) b k = if k < c then F n (b || P k) (k + 1) else some (bi b, σ)) (n : Nat) (hn : c < n) : F n false 0 = some (bi (zany P c 0), σ) :=
  zl_any F c P (fun b => some (bi b, σ)) h c n false 0 (by omega) hn
theorem zl_hall {σ : zS} (F : Nat → Bool → Nat → Option (Int32 × zS)) (c : Nat) (P : Nat → Bool)
    (h : ∀ n b k, k ≤ c → F (n + 1) b k = if k < c then (bif b then F n (P k) (k + 1) else some (bi false, σ)) else some (bi b, σ)) (b : Bool) (n : Nat) (hn : c < n) : F n b 0 = some (bi (b && zall P c 0), σ) :=
  zl_all F c P (fun b => some (bi b, σ)) h c n b 0 (by omega) hn
theorem nIk {k c : Nat} (hk : k ≤ c) (hc : c ≤ 5000) : (nI k < nI c) ↔ k < c := nIlt (by omega) hc
theorem M_hasUse {τ : zS} (hI : zIv (zc τ)) {i : Nat} (hi : i < 32) (x : Int32) : fn_M_hasUse (nI i) x τ = some (bi (zany (fun k => decide (τ.1 43 (6 * i + k) = x)) (uc (zc τ) i) 0), τ) := by
  have e1 : τ.1 42 i = nI (uc (zc τ) i) := (hI.2.1 i hi).1
  have hc : uc (zc τ) i ≤ 6 := (hI.2.1 i hi).2.1
  generalize uc (zc τ) i = c at *
  refine zl_has (fun n b k => fn_M_hasUse_5 n (nI i) x (bi b) (nI k) τ) c _ (fun n b k hk => ?_) 100 (by omega)
  show fn_M_hasUse_5 (n + 1) (nI i) x (bi b) (nI k) τ = _
  rw [fn_M_hasUse_5, zgd_t (zin_n hi (by omega)), nIc (show i ≤ 5000 by omega), e1]
  by_cases hkc : k < c
  · rw [if_pos ((nIk hk (by omega)).mpr hkc), if_pos hkc]
    cases b with
    | true =>
      rw [if_neg bi_t0, nI_1]
      rfl
    | false =>
      rw [if_pos bi_f0, nI6, zgd_t (zin_n (show 6 * i + k < 192 by omega) (by omega)), nIc (show 6 * i + k ≤ 5000 by omega), nI_1]
      by_cases hp : τ.1 43 (6 * i + k) = x
      · rw [if_pos hp, decide_eq_true hp]
        rfl
      · rw [if_neg hp, decide_eq_false hp]
        rfl
  · rw [if_neg (fun q => hkc ((nIk hk (by omega)).mp q)), if_neg hkc, zgd_t (zbo_bi b)]
theorem M_hasNeed {τ : zS} (hI : zIv (zc τ)) {i : Nat} (hi : i < 32) (x : Int64) : fn_M_hasNeed (nI i) x τ = some (bi (zany (fun k => decide (τ.2 36 (6 * i + k) = x)) (nc (zc τ) i) 0), τ) := by
  have e1 : τ.1 44 i = nI (nc (zc τ) i) := (hI.2.1 i hi).2.2.1
  have hc : nc (zc τ) i ≤ 6 := (hI.2.1 i hi).2.2.2.1
  generalize nc (zc τ) i = c at *
  refine zl_has (fun n b k => fn_M_hasNeed_6 n (nI i) x (bi b) (nI k) τ) c _ (fun n b k hk => ?_) 100 (by omega)
  show fn_M_hasNeed_6 (n + 1) (nI i) x (bi b) (nI k) τ = _
  rw [fn_M_hasNeed_6, zgd_t (zin_n hi (by omega)), nIc (show i ≤ 5000 by omega), e1]
  by_cases hkc : k < c
  · rw [if_pos ((nIk hk (by omega)).mpr hkc), if_pos hkc]
    cases b with
    | true =>
      rw [if_neg bi_t0, nI_1]
      rfl
    | false =>
      rw [if_pos bi_f0, nI6, zgd_t (zin_n (show 6 * i + k < 192 by omega) (by omega)), nIc (show 6 * i + k ≤ 5000 by omega), nI_1]
      by_cases hp : τ.2 36 (6 * i + k) = x
      · rw [if_pos ((lg_cmp_eq _ _).mpr hp), decide_eq_true hp]
        rfl
      · rw [if_neg (fun e => hp ((lg_cmp_eq _ _).mp e)), decide_eq_false hp]
        rfl
  · rw [if_neg (fun q => hkc ((nIk hk (by omega)).mp q)), if_neg hkc, zgd_t (zbo_bi b)]
theorem W_contains_u {σ T : zS} (hI : zIv T) (hR : zRC σ T) {i : Nat} (hi : i < 32) (x : Int64) : fn_W_contains_u (nI i) x σ = some (bi (zany (fun k => decide (σ.2 14 (6 * i + k) = x)) (uc T i) 0), σ) := by
  obtain ⟨r1, r2, r3, r4, r5, r6, r7, r8, r9, r10, r11, r12, r13, r14, r15, r16, r17, r18, r19, r20, r21, r22, r23, r24⟩ := id hR
  have e1 : σ.1 13 i = nI (uc T i) := by rw [r13]; exact (hI.2.1 i hi).1
  have hc : uc T i ≤ 6 := (hI.2.1 i hi).2.1
  generalize uc T i = c at *
  refine zl_anyf (fun n k => fn_W_contains_u_3 n (nI i) x (nI k) σ) c _ (fun n k hk => ?_) 100 (by omega)
  show fn_W_contains_u_3 (n + 1) (nI i) x (nI k) σ = _
  rw [fn_W_contains_u_3, zgd_t (zin_n hi (by omega)), nIc (show i ≤ 5000 by omega), e1]
  by_cases hkc : k < c
  · rw [if_pos ((nIk hk (by omega)).mpr hkc), if_pos hkc]
    unfold fn_W_valueAt_u
    rw [nI6', zgd_t (zin_n (show 6 * i + k < 192 by omega) (by omega)), nIc (show 6 * i + k ≤ 5000 by omega), zb_s, nI_1]
    by_cases hp : σ.2 14 (6 * i + k) = x
    · rw [if_pos ((lg_cmp_eq _ _).mpr hp), decide_eq_true hp]
      rfl
    · rw [if_neg (fun e => hp ((lg_cmp_eq _ _).mp e)), decide_eq_false hp]
      rfl
  · rw [if_neg (fun q => hkc ((nIk hk (by omega)).mp q)), if_neg hkc]
theorem W_contains_n {σ T : zS} (hI : zIv T) (hR : zRC σ T) {i : Nat} (hi : i < 32) (x : Int64) : fn_W_contains_n (nI i) x σ = some (bi (zany (fun k => decide (σ.2 17 (6 * i + k) = x)) (nc T i) 0), σ) := by
  obtain ⟨r1, r2, r3, r4, r5, r6, r7, r8, r9, r10, r11, r12, r13, r14, r15, r16, r17, r18, r19, r20, r21, r22, r23, r24⟩ := id hR
  have e1 : σ.1 16 i = nI (nc T i) := by rw [r15]; exact (hI.2.1 i hi).2.2.1
  have hc : nc T i ≤ 6 := (hI.2.1 i hi).2.2.2.1
  generalize nc T i = c at *
  refine zl_anyf (fun n k => fn_W_contains_n_3 n (nI i) x (nI k) σ) c _ (fun n k hk => ?_) 100 (by omega)
  show fn_W_contains_n_3 (n + 1) (nI i) x (nI k) σ = _
  rw [fn_W_contains_n_3, zgd_t (zin_n hi (by omega)), nIc (show i ≤ 5000 by omega), e1]
  by_cases hkc : k < c
  · rw [if_pos ((nIk hk (by omega)).mpr hkc), if_pos hkc]
    unfold fn_W_valueAt_n
    rw [nI6', zgd_t (zin_n (show 6 * i + k < 192 by omega) (by omega)), nIc (show 6 * i + k ≤ 5000 by omega), zb_s, nI_1]
    by_cases hp : σ.2 17 (6 * i + k) = x
    · rw [if_pos ((lg_cmp_eq _ _).mpr hp), decide_eq_true hp]
      rfl
    · rw [if_neg (fun e => hp ((lg_cmp_eq _ _).mp e)), decide_eq_false hp]
      rfl
  · rw [if_neg (fun q => hkc ((nIk hk (by omega)).mp q)), if_neg hkc]
theorem M_meets {τ : zS} (hI : zIv (zc τ)) (d : Int64) : fn_M_meets d τ = some (oI (mt (zc τ) d), τ) := by
  have e1 : τ.1 701 0 = nI (za (zc τ)) := hI.1.2.2.1
  have hc : za (zc τ) ≤ 32 := hI.1.2.2.2.1
  unfold mt
  generalize za (zc τ) = c at *
  refine zl_find (fun n k => fn_M_meets_2 n d (nI k) τ) c _ (fun n k hk => ?_) 100 (by omega)
  show fn_M_meets_2 (n + 1) d (nI k) τ = _
  rw [fn_M_meets_2, e1]
  by_cases hkc : k < c
  · rw [if_pos ((nIk hk (by omega)).mpr hkc), if_pos hkc, zgd_t (zin_n (show k < 32 by omega) (by omega)), nIc (show k ≤ 5000 by omega), nI_1]
    by_cases hp : τ.2 35 k = d
    · rw [if_pos ((lg_cmp_eq _ _).mpr hp), if_pos ((nIk hk (by omega)).mpr hkc)]
      have hp' : (zc τ).2 35 k = d := hp
      rw [decide_eq_true hp']
      rfl
    · rw [if_neg (fun e => hp ((lg_cmp_eq _ _).mp e))]
      have hp' : ¬ (zc τ).2 35 k = d := hp
      rw [decide_eq_false hp']
      rfl
  · rw [if_neg (fun q => hkc ((nIk hk (by omega)).mp q)), if_neg hkc, if_neg (fun q => hkc ((nIk hk (by omega)).mp q))]
theorem A_firstOf {σ T : zS} (hI : zIv T) (h2 : σ.1 220 0 = T.1 701 0) (h8 : σ.2 7 = T.2 35) (d : Int64) : fn_A_firstOf d σ = some (oI (mt T d), σ) := by
  have e1 : σ.1 220 0 = nI (za T) := h2.trans hI.1.2.2.1
  have hc : za T ≤ 32 := hI.1.2.2.2.1
  unfold mt
  generalize za T = c at *
  refine zl_find (fun n k => fn_A_firstOf_2 n d (nI k) σ) c _ (fun n k hk => ?_) 100 (by omega)
  show fn_A_firstOf_2 (n + 1) d (nI k) σ = _
  rw [fn_A_firstOf_2, e1]
  by_cases hkc : k < c
  · rw [if_pos ((nIk hk (by omega)).mpr hkc), if_pos hkc, zgd_t (zin_n (show k < 32 by omega) (by omega)), nIc (show k ≤ 5000 by omega), nI_1, h8]
    by_cases hp : T.2 35 k = d
    · rw [if_pos ((lg_cmp_eq _ _).mpr hp), decide_eq_true hp]
      rfl
    · rw [if_neg (fun e => hp ((lg_cmp_eq _ _).mp e)), decide_eq_false hp]
      rfl
  · rw [if_neg (fun q => hkc ((nIk hk (by omega)).mp q)), if_neg hkc]
theorem i64_inj {a b : Int32} : a.toInt64 = b.toInt64 ↔ a = b := ⟨fun h => by
  have h2 := congrArg Int64.toInt32 h
  simpa using h2, fun h => by rw [h]⟩
/-- promise 5 -/
theorem ok_uses {σ τ : zS} (h : zRel σ τ) (x1 x2 : Int32) : zOK (fn_P_uses x1 x2 σ) (fn_M_uses x1 x2 τ) := by
  obtain ⟨hI, hR⟩ := id h
  obtain ⟨r1, r2, r3, r4, r5, r6, r7, r8, r9, r10, r11, r12, r13, r14, r15, r16, r17, r18, r19, r20, r21, r22, r23, r24⟩ := id hR
  obtain ⟨⟨i1, i2, i3, i4, i5, i6, i7, i8⟩, I2, I3, I4, I5, I6, I7⟩ := id hI
  unfold fn_P_uses fn_M_uses
  rw [A_has hI hR, zb_s, M_isArt hI, zb_s]
  by_cases hg : ∃ j : Nat, j < za (zc τ) ∧ x1 = nI j
  · rw [decide_eq_true hg, if_neg bi_t0, if_neg bi_t0]
    obtain ⟨i, hi, rfl⟩ := hg
    have hi32 : i < 32 := by omega
    rw [S_has hI hR, zb_s, M_isSrc hI, zb_s]
    by_cases hs : ∃ j : Nat, j < zn (zc τ) ∧ x2 = nI j
    · rw [decide_eq_true hs, if_neg bi_t0, if_neg bi_t0]
      obtain ⟨s, hs, rfl⟩ := hs
      have hP : zany (fun k => decide (σ.2 14 (6 * i + k) = (nI s).toInt64)) (uc (zc τ) i) 0 = zany (fun k => decide (τ.1 43 (6 * i + k) = nI s)) (uc (zc τ) i) 0 := zany_congr (fun k _ _ => by
        rw [show σ.2 14 (6 * i + k) = (τ.1 43 (6 * i + k)).toInt64 from r14 _]
        exact decide_eq_decide.mpr i64_inj)
      rw [M_hasUse hI hi32, zb_s]
      unfold fn_W_append_u
      have e1 : τ.1 42 i = nI (uc (zc τ) i) := (I2 i hi32).1
      have e2 : σ.1 13 i = nI (uc (zc τ) i) := by rw [r13]; exact (I2 i hi32).1
      have hc : uc (zc τ) i ≤ 6 := (I2 i hi32).2.1
      rw [zgd_t (zin_n hi32 (by omega)), nIc (show i ≤ 5000 by omega), e2, W_contains_u hI hR hi32, zb_s, hP]
      cases hz : zany (fun k => decide (τ.1 43 (6 * i + k) = nI s)) (uc (zc τ) i) 0 with
      | true =>
        rw [if_neg bi_t0, if_neg bi_t0]
        by_cases h6 : nI (uc (zc τ) i) < (6 : Int32)
        · rw [if_pos h6, zb_s, zgd_t zbo_0]; exact zOK.same h rfl rfl
        · rw [if_neg h6, zb_s, zgd_t zbo_0]; exact zOK.same h rfl rfl
      | false =>
        rw [if_pos bi_f0, if_pos bi_f0]
        by_cases h6 : uc (zc τ) i = 6
        · have a1 : ¬ nI (uc (zc τ) i) < (6 : Int32) := by rw [h6]; decide
          have a2 : τ.1 42 i = (6 : Int32) := by rw [e1, h6]; rfl
          rw [if_neg a1, zb_s, zgd_t zbo_0, zgd_t (zin_n hi32 (by omega)), if_pos a2]
          exact zOK.same h rfl rfl
        · generalize hcc : uc (zc τ) i = c at *
          have a1 : nI c < (6 : Int32) := (nIlt (b := 6) (by omega) (by omega)).mpr (by omega)
          have a2 : ¬ nI c = (6 : Int32) := fun e => h6 ((nIeq (b := 6) (by omega) (by omega)).mp e)
          simp only [zL_1, zI_2, zF_2, zI_s, zI_n, zF_s, zF_n, zL_s, zL_n, ne_eq, Nat.reduceEqDiff, not_false_eq_true, zst_e, zb_s, e1, e2, nI6, nI6', nI_1, nIc (show i ≤ 5000 by omega), nIc (show 6 * i + c ≤ 5000 by omega), zgd_t (zin_n hi32 (show (32 : Nat) ≤ 5000 by omega)), zgd_t (zin_n (show 6 * i + c < 192 by omega) (show (192 : Nat) ≤ 5000 by omega)), if_pos a1, if_neg a2, zgd_t zbo_1]
          refine ⟨1, _, _, rfl, rfl, ?_, ?_⟩
          · refine ⟨⟨i1, i2, i3, i4, i5, i6, i7, i8⟩, fun i' hi' => ?_, fun i' k hi' hk => ?_, I4, I5, I6, I7⟩
            · show upd (τ.1 42) i (nI (c + 1)) i' = nI (upd (τ.1 42) i (nI (c + 1)) i').toNatClampNeg ∧ (upd (τ.1 42) i (nI (c + 1)) i').toNatClampNeg ≤ 6 ∧ τ.1 44 i' = nI (nc (zc τ) i') ∧ nc (zc τ) i' ≤ 6 ∧ (za (zc τ) ≤ i' → (upd (τ.1 42) i (nI (c + 1)) i').toNatClampNeg = 0 ∧ nc (zc τ) i' = 0)
              by_cases e : i' = i
              · subst e
                rw [upd_s, nIc (by omega)]
                exact ⟨rfl, by omega, (I2 i' hi').2.2.1, (I2 i' hi').2.2.2.1, fun q => absurd q (by omega)⟩
              · rw [upd_n e]
                exact I2 i' hi'
            · have hk : k < (upd (τ.1 42) i (nI (c + 1)) i').toNatClampNeg := hk
              show upd (τ.1 43) (6 * i + c) (nI s) (6 * i' + k) = nI (upd (τ.1 43) (6 * i + c) (nI s) (6 * i' + k)).toNatClampNeg ∧ (upd (τ.1 43) (6 * i + c) (nI s) (6 * i' + k)).toNatClampNeg < zn (zc τ)
              by_cases e : i' = i
              · subst e
                rw [upd_s, nIc (by omega)] at hk
                by_cases e3 : k = c
                · subst e3
                  rw [upd_s, nIc (by omega)]
                  exact ⟨rfl, hs⟩
                · rw [upd_n (by omega)]
                  exact I3 i' k hi' (by rw [hcc]; omega)
              · rw [upd_n e] at hk
                have hk6 : k < 6 := Nat.lt_of_lt_of_le hk (I2 i' hi').2.1
                rw [upd_n (by omega)]
                exact I3 i' k hi' hk
          · refine ⟨r1, r2, r3, r4, r5, r6, r7, r8, r9, r10, r11, r12, ?_, ?_, r15, r16, r17, r18, r19, r20, r21, r22, r23, r24⟩
            · show upd (σ.1 13) i (nI (c + 1)) = upd (τ.1 42) i (nI (c + 1))
              rw [show σ.1 13 = τ.1 42 from r13]
            · intro j
              show vp_updL (σ.2 14) (6 * i + c) (nI s).toInt64 j = (upd (τ.1 43) (6 * i + c) (nI s) j).toInt64
              by_cases e : j = 6 * i + c
              · subst e; rw [updL_s, upd_s]
              · rw [updL_n e, upd_n e]; exact r14 j
    · rw [decide_eq_false hs, if_pos bi_f0, if_pos bi_f0]
      exact zOK.same h rfl rfl
  · rw [decide_eq_false hg, if_pos bi_f0, if_pos bi_f0]
    exact zOK.same h rfl rfl
/-- promise 6 -/
theorem ok_needs {σ τ : zS} (h : zRel σ τ) (x1 : Int32) (x2 : Int64) : zOK (fn_P_needs x1 x2 σ) (fn_M_needs x1 x2 τ) := by
  obtain ⟨hI, hR⟩ := id h
  obtain ⟨r1, r2, r3, r4, r5, r6, r7, r8, r9, r10, r11, r12, r13, r14, r15, r16, r17, r18, r19, r20, r21, r22, r23, r24⟩ := id hR
  obtain ⟨⟨i1, i2, i3, i4, i5, i6, i7, i8⟩, I2, I3, I4, I5, I6, I7⟩ := id hI
  unfold fn_P_needs fn_M_needs
  rw [A_has hI hR, zb_s, M_isArt hI, zb_s]
  by_cases hg : ∃ j : Nat, j < za (zc τ) ∧ x1 = nI j
  · rw [decide_eq_true hg, if_neg bi_t0, if_neg bi_t0]
    obtain ⟨i, hi, rfl⟩ := hg
    have hi32 : i < 32 := by omega
    have hP : zany (fun k => decide (σ.2 17 (6 * i + k) = x2)) (nc (zc τ) i) 0 = zany (fun k => decide (τ.2 36 (6 * i + k) = x2)) (nc (zc τ) i) 0 := zany_congr (fun k _ _ => by
      rw [show σ.2 17 = τ.2 36 from r16])
    rw [M_hasNeed hI hi32, zb_s]
    unfold fn_A_addNeeded fn_W_append_n
    have e1 : τ.1 44 i = nI (nc (zc τ) i) := (I2 i hi32).2.2.1
    have e2 : σ.1 16 i = nI (nc (zc τ) i) := by rw [r15]; exact (I2 i hi32).2.2.1
    have hc : nc (zc τ) i ≤ 6 := (I2 i hi32).2.2.2.1
    rw [zgd_t (zin_n hi32 (by omega)), zgd_t (zin_n hi32 (by omega)), nIc (show i ≤ 5000 by omega), e2, W_contains_n hI hR hi32, zb_s, hP]
    cases hz : zany (fun k => decide (τ.2 36 (6 * i + k) = x2)) (nc (zc τ) i) 0 with
    | true =>
      rw [if_neg bi_t0, if_neg bi_t0]
      by_cases h6 : nI (nc (zc τ) i) < (6 : Int32)
      · rw [if_pos h6, zb_s, if_pos rfl, zb_s, zgd_t zbo_0]; exact zOK.same h rfl rfl
      · rw [if_neg h6, zb_s, if_pos rfl, zb_s, zgd_t zbo_0]; exact zOK.same h rfl rfl
    | false =>
      rw [if_pos bi_f0, if_pos bi_f0]
      by_cases h6 : nc (zc τ) i = 6
      · have a1 : ¬ nI (nc (zc τ) i) < (6 : Int32) := by rw [h6]; decide
        have a2 : τ.1 44 i = (6 : Int32) := by rw [e1, h6]; rfl
        rw [if_neg a1, zb_s, if_pos rfl, zb_s, zgd_t zbo_0, zgd_t (zin_n hi32 (by omega)), if_pos a2]
        exact zOK.same h rfl rfl
      · generalize hcc : nc (zc τ) i = c at *
        have a1 : nI c < (6 : Int32) := (nIlt (b := 6) (by omega) (by omega)).mpr (by omega)
        have a2 : ¬ nI c = (6 : Int32) := fun e => h6 ((nIeq (b := 6) (by omega) (by omega)).mp e)
        have a3 : ¬ (1 : Int32) = 0 := by decide
        simp only [zL_1, zI_2, zF_2, zI_s, zI_n, zF_s, zF_n, zL_s, zL_n, ne_eq, Nat.reduceEqDiff, not_false_eq_true, zst_e, zb_s, e1, e2, nI6, nI6', nI_1, nIc (show i ≤ 5000 by omega), nIc (show 6 * i + c ≤ 5000 by omega), zgd_t (zin_n hi32 (show (32 : Nat) ≤ 5000 by omega)), zgd_t (zin_n (show 6 * i + c < 192 by omega) (show (192 : Nat) ≤ 5000 by omega)), if_pos a1, if_neg a2, if_neg a3, zgd_t zbo_1]
        rw [A_firstOf (σ := zI (zL σ 17 (6 * i + c) x2) 16 i (nI (c + 1))) (T := zc τ) hI r2 r8, zb_s, zb_s, zgd_t zbo_1]
        refine ⟨1, _, _, rfl, rfl, ?_, ?_⟩
        · refine ⟨⟨i1, i2, i3, i4, i5, i6, i7, i8⟩, fun i' hi' => ?_, I3, I4, I5, I6, I7⟩
          show τ.1 42 i' = nI (uc (zc τ) i') ∧ uc (zc τ) i' ≤ 6 ∧ upd (τ.1 44) i (nI (c + 1)) i' = nI (upd (τ.1 44) i (nI (c + 1)) i').toNatClampNeg ∧ (upd (τ.1 44) i (nI (c + 1)) i').toNatClampNeg ≤ 6 ∧ (za (zc τ) ≤ i' → uc (zc τ) i' = 0 ∧ (upd (τ.1 44) i (nI (c + 1)) i').toNatClampNeg = 0)
          by_cases e : i' = i
          · subst e
            rw [upd_s, nIc (by omega)]
            exact ⟨(I2 i' hi').1, (I2 i' hi').2.1, rfl, by omega, fun q => absurd q (by omega)⟩
          · rw [upd_n e]
            exact I2 i' hi'
        · refine ⟨r1, r2, r3, r4, r5, r6, r7, r8, r9, r10, r11, r12, r13, r14, ?_, ?_, r17, r18, r19, r20, r21, r22, r23, ?_⟩
          · show upd (σ.1 16) i (nI (c + 1)) = upd (τ.1 44) i (nI (c + 1))
            rw [show σ.1 16 = τ.1 44 from r15]
          · show vp_updL (σ.2 17) (6 * i + c) x2 = vp_updL (τ.2 36) (6 * i + c) x2
            rw [show σ.2 17 = τ.2 36 from r16]
          · intro i' k hi' hk
            have hk : k < (upd (τ.1 44) i (nI (c + 1)) i').toNatClampNeg := hk
            show upd (σ.1 18) (6 * i + c) (oI (mt (zc τ) x2)) (6 * i' + k) = oI (mt (zc τ) (vp_updL (τ.2 36) (6 * i + c) x2 (6 * i' + k)))
            by_cases e : i' = i
            · subst e
              rw [upd_s, nIc (by omega)] at hk
              by_cases e3 : k = c
              · subst e3
                rw [upd_s, updL_s]
              · rw [upd_n (by omega), updL_n (by omega)]
                exact r24 i' k hi' (by rw [hcc]; omega)
            · rw [upd_n e] at hk
              have hk6 : k < 6 := Nat.lt_of_lt_of_le hk (I2 i' (Nat.lt_of_lt_of_le hi' i4)).2.2.2.1
              rw [upd_n (by omega), updL_n (by omega)]
              exact r24 i' k hi' hk
  · rw [decide_eq_false hg, if_pos bi_f0, if_pos bi_f0]
    exact zOK.same h rfl rfl
