theorem upd_all {N n : Nat} {P : Int32 → Prop} {f : Nat → Int32} {v : Int32} (h : ∀ s, s < N → P (f s)) (hv : P v) : ∀ s, s < N → P (upd f n v s) := fun s hs => by
  by_cases e : s = n
  · subst e; rw [upd_s]; exact hv
  · rw [upd_n e]; exact h s hs
theorem bi_t0 : ¬ bi true = 0 := by decide
theorem bi_f0 : bi false = 0 := rfl
theorem zin_lt {j n : Nat} (hn : n ≤ 5000) (hj : j < n) : zin (nI j) n = true := zin_n hj hn
/-- promise 2 -/
theorem ok_source {σ τ : zS} (h : zRel σ τ) (x1 : Int64) (x3 x4 : Int32) : zOK (fn_P_source x1 x3 x4 σ) (fn_M_source x1 x3 x4 τ) := by
  obtain ⟨hI, hR⟩ := id h
  obtain ⟨r1, r2, r3, r4, r5, r6, r7, r8, r9, r10, r11, r12, r13, r14, r15, r16, r17, r18, r19, r20, r21, r22, r23, r24⟩ := id hR
  obtain ⟨⟨i1, i2, i3, i4, i5, i6, i7, i8⟩, I2, I3, I4, I5, I6, I7⟩ := id hI
  have e1 : τ.1 700 0 = nI (zn (zc τ)) := i1
  have e2 : σ.1 120 0 = nI (zn (zc τ)) := r1.trans i1
  generalize hn : zn (zc τ) = n at *
  unfold fn_P_source fn_M_source
  rw [P_isUpTo, zb_s, e1, M_within, zb_s]
  by_cases hg : ¬ x3 < 0 ∧ ¬ (7 : Int32) < x3
  · rw [decide_eq_true hg]
    obtain ⟨br, hbr, rfl⟩ := nIto (b := 7) (by omega) hg
    rw [if_neg bi_t0, if_neg bi_t0]
    unfold fn_S_add
    rw [e2]
    by_cases hf : n = 24
    · subst hf
      have h24 : ¬ nI 24 < (24 : Int32) := by decide
      have h24' : nI 24 = (24 : Int32) := rfl
      rw [if_neg h24, if_pos h24', zb_s]
      exact zOK.same h rfl rfl
    · have hn24 : n < 24 := by omega
      have h24 : nI n < (24 : Int32) := (nIlt (b := 24) (by omega) (by omega)).mpr hn24
      have h24' : ¬ nI n = (24 : Int32) := fun e => hf ((nIeq (b := 24) (by omega) (by omega)).mp e)
      rw [if_pos h24, if_neg h24']
      simp only [zL_1, zI_2, zF_2, zI_s, zI_n, zF_s, zF_n, zL_s, zL_n, ne_eq, Nat.reduceEqDiff, not_false_eq_true, zst_e, zb_s, e1, e2, nIc (show n ≤ 5000 by omega), zgd_t (zin_n hn24 (show (24 : Nat) ≤ 5000 by omega)), nI_1, nI_pred]
      obtain ⟨rv, hrv, erv⟩ := pk_andE x4 (m := 65535) 16 (by decide)
      rw [erv]
      refine ⟨nI n, _, _, rfl, rfl, ?_, ?_⟩
      · have hz : zn (zc (zF (zI (zI (zL τ 31 n x1) 32 n (nI br)) 33 n (nI rv)) 700 (nI (n + 1)))) = n + 1 := nIc (by omega)
        refine ⟨⟨by rw [hz]; rfl, by rw [hz]; omega, i3, i4, i5, i6, i7, i8⟩, I2, fun i k hi hk => ⟨(I3 i k hi hk).1, ?_⟩, I4, fun s hs => ⟨?_, ?_⟩, I6, I7⟩
        · rw [hz]
          exact Nat.lt_succ_of_lt (hn ▸ (I3 i k hi hk).2)
        · exact upd_all (P := fun v => ∃ b : Nat, b ≤ 7 ∧ v = nI b) (fun s hs => (I5 s hs).1) ⟨br, hbr, rfl⟩ s hs
        · exact upd_all (P := fun v => ∃ r : Nat, r < 65536 ∧ v = nI r) (fun s hs => (I5 s hs).2) ⟨rv, hrv, rfl⟩ s hs
      · refine ⟨rfl, r2, r3, ?_, ?_, ?_, r7, r8, r9, r10, r11, r12, r13, r14, r15, r16, r17, r18, r19, r20, r21, r22, r23, r24⟩
        · show vp_updL (σ.2 2) n x1 = vp_updL (τ.2 31) n x1
          rw [show σ.2 2 = τ.2 31 from r4]
        · show upd (σ.1 3) n (nI br) = upd (τ.1 32) n (nI br)
          rw [show σ.1 3 = τ.1 32 from r5]
        · show upd (σ.1 4) n (nI rv) = upd (τ.1 33) n (nI rv)
          rw [show σ.1 4 = τ.1 33 from r6]
  · rw [decide_eq_false hg, if_pos bi_f0, if_pos bi_f0]
    by_cases hf : nI n = (24 : Int32)
    · rw [if_pos hf]; exact zOK.same h rfl rfl
    · rw [if_neg hf]; exact zOK.same h rfl rfl
/-- promise 3 -/
theorem ok_fetched {σ τ : zS} (h : zRel σ τ) (x1 x2 : Int32) : zOK (fn_P_fetched x1 x2 σ) (fn_M_fetched x1 x2 τ) := by
  obtain ⟨hI, hR⟩ := id h
  obtain ⟨r1, r2, r3, r4, r5, r6, r7, r8, r9, r10, r11, r12, r13, r14, r15, r16, r17, r18, r19, r20, r21, r22, r23, r24⟩ := id hR
  obtain ⟨⟨i1, i2, i3, i4, i5, i6, i7, i8⟩, I2, I3, I4, I5, I6, I7⟩ := id hI
  unfold fn_P_fetched fn_M_fetched
  rw [S_has hI hR, zb_s, M_isSrc hI, zb_s]
  by_cases hg : ∃ j : Nat, j < zn (zc τ) ∧ x1 = nI j
  · rw [decide_eq_true hg, if_neg bi_t0, if_neg bi_t0]
    obtain ⟨j, hj, rfl⟩ := hg
    have hj24 : j < 24 := by omega
    rw [zgd_t (zin_n hj24 (by omega)), zgd_t (zin_n hj24 (by omega)), zgd_t (zin_n hj24 (by omega)), zgd_t (zin_n hj24 (by omega)), nIc (show j ≤ 5000 by omega)]
    simp only [zst_e]
    by_cases h2 : x2 = 0
    · rw [if_pos h2, if_pos h2]
      refine ⟨1, _, _, rfl, rfl, ⟨⟨i1, i2, i3, i4, i5, i6, i7, i8⟩, I2, I3, I4, I5, I6, I7⟩, ?_⟩
      refine ⟨r1, r2, r3, r4, r5, r6, ?_, r8, r9, r10, r11, r12, r13, r14, r15, r16, r17, r18, r19, r20, r21, r22, r23, r24⟩
      · show upd (σ.1 5) j (vp_nar .boolean 1) = upd (τ.1 34) j (vp_nar .boolean 1)
        rw [show σ.1 5 = τ.1 34 from r7]
    · rw [if_neg h2, if_neg h2]
      refine ⟨1, _, _, rfl, rfl, ⟨⟨i1, i2, i3, i4, i5, i6, i7, i8⟩, I2, I3, I4, I5, I6, I7⟩, ?_⟩
      refine ⟨r1, r2, r3, r4, r5, r6, ?_, r8, r9, r10, r11, r12, r13, r14, r15, r16, r17, r18, r19, r20, r21, r22, r23, r24⟩
      · show upd (σ.1 5) j (vp_nar .boolean 0) = upd (τ.1 34) j (vp_nar .boolean 0)
        rw [show σ.1 5 = τ.1 34 from r7]
  · rw [decide_eq_false hg, if_pos bi_f0, if_pos bi_f0]
    exact zOK.same h rfl rfl
/-- promise 8 -/
theorem ok_policy {σ τ : zS} (h : zRel σ τ) (x1 x2 : Int32) : zOK (fn_P_policy x1 x2 σ) (fn_M_policy x1 x2 τ) := by
  obtain ⟨hI, hR⟩ := id h
  obtain ⟨r1, r2, r3, r4, r5, r6, r7, r8, r9, r10, r11, r12, r13, r14, r15, r16, r17, r18, r19, r20, r21, r22, r23, r24⟩ := id hR
  obtain ⟨⟨i1, i2, i3, i4, i5, i6, i7, i8⟩, I2, I3, I4, I5, I6, I7⟩ := id hI
  have e1 : τ.1 702 0 = nI (zp (zc τ)) := i5
  have e2 : σ.1 520 0 = nI (zp (zc τ)) := r3.trans i5
  generalize hn : zp (zc τ) = n at *
  unfold fn_P_policy fn_M_policy
  rw [P_isUpTo, zb_s, e1, M_within, zb_s]
  by_cases hg : ¬ x1 < 0 ∧ ¬ (9 : Int32) < x1
  · rw [decide_eq_true hg]
    obtain ⟨br, hbr, rfl⟩ := nIto (b := 9) (by omega) hg
    rw [if_neg bi_t0, if_neg bi_t0]
    unfold fn_Y_add
    rw [e2]
    by_cases hf : n = 16
    · subst hf
      have h24 : ¬ nI 16 < (16 : Int32) := by decide
      have h24' : nI 16 = (16 : Int32) := rfl
      rw [if_neg h24, if_pos h24', zb_s]
      exact zOK.same h rfl rfl
    · have hn16 : n < 16 := by omega
      have h24 : nI n < (16 : Int32) := (nIlt (b := 16) (by omega) (by omega)).mpr hn16
      have h24' : ¬ nI n = (16 : Int32) := fun e => hf ((nIeq (b := 16) (by omega) (by omega)).mp e)
      rw [if_pos h24, if_neg h24']
      simp only [zL_1, zI_2, zF_2, zI_s, zI_n, zF_s, zF_n, zL_s, zL_n, ne_eq, Nat.reduceEqDiff, not_false_eq_true, zst_e, zb_s, e1, e2, nIc (show n ≤ 5000 by omega), zgd_t (zin_n hn16 (show (16 : Nat) ≤ 5000 by omega)), nI_1, nI_pred]
      refine ⟨nI n, _, _, rfl, rfl, ?_, ?_⟩
      · have hz : zp (zc (zF (zI (zI τ 46 n (nI br)) 47 n x2) 702 (nI (n + 1)))) = n + 1 := nIc (by omega)
        refine ⟨⟨i1, i2, i3, i4, by rw [hz]; rfl, by rw [hz]; omega, i7, i8⟩, I2, I3, I4, I5, fun s hs => ?_, I7⟩
        exact upd_all (P := fun v => ∃ b : Nat, b ≤ 9 ∧ v = nI b) (fun s hs => I6 s hs) ⟨br, hbr, rfl⟩ s hs
      · refine ⟨r1, r2, rfl, r4, r5, r6, r7, r8, r9, r10, r11, r12, r13, r14, r15, r16, r17, r18, ?_, ?_, r21, r22, r23, r24⟩
        · show upd (σ.1 22) n (nI br) = upd (τ.1 46) n (nI br)
          rw [show σ.1 22 = τ.1 46 from r19]
        · show upd (σ.1 23) n x2 = upd (τ.1 47) n x2
          rw [show σ.1 23 = τ.1 47 from r20]
  · rw [decide_eq_false hg, if_pos bi_f0, if_pos bi_f0]
    by_cases hf : nI n = (16 : Int32)
    · rw [if_pos hf]; exact zOK.same h rfl rfl
    · rw [if_neg hf]; exact zOK.same h rfl rfl
/-- promise 7 -/
theorem ok_path {σ τ : zS} (h : zRel σ τ) (x1 x2 : Int32) (x3 : Int64) : zOK (fn_P_path x1 x2 x3 σ) (fn_M_path x1 x2 x3 τ) := by
  obtain ⟨hI, hR⟩ := id h
  obtain ⟨r1, r2, r3, r4, r5, r6, r7, r8, r9, r10, r11, r12, r13, r14, r15, r16, r17, r18, r19, r20, r21, r22, r23, r24⟩ := id hR
  obtain ⟨⟨i1, i2, i3, i4, i5, i6, i7, i8⟩, I2, I3, I4, I5, I6, I7⟩ := id hI
  unfold fn_P_path fn_M_path
  rw [A_has hI hR, zb_s, M_isArt hI, zb_s]
  by_cases hg : ∃ j : Nat, j < za (zc τ) ∧ x1 = nI j
  · rw [decide_eq_true hg, if_neg bi_t0, if_neg bi_t0]
    obtain ⟨j, hj, rfl⟩ := hg
    have hj32 : j < 32 := by omega
    rw [P_isUpTo, zb_s, M_within, zb_s]
    by_cases hq : ¬ x2 < 0 ∧ ¬ (7 : Int32) < x2
    · rw [decide_eq_true hq, if_neg bi_t0, if_neg bi_t0]
      obtain ⟨q, hq7, rfl⟩ := nIto (b := 7) (by omega) hq
      unfold fn_A_setPath
      simp only [zL_1, zI_2, zF_2, zI_s, zI_n, zF_s, zF_n, zL_s, zL_n, ne_eq, Nat.reduceEqDiff, not_false_eq_true, zst_e, zb_s, nI8, nI8', nIc (show j ≤ 5000 by omega), nIc (show 8 * j + q ≤ 5000 by omega), zgd_t (zin_n hj32 (show (32 : Nat) ≤ 5000 by omega)), zgd_t (zin_n (show 8 * j + q < 256 by omega) (show (256 : Nat) ≤ 5000 by omega))]
      refine ⟨1, _, _, rfl, rfl, ⟨⟨i1, i2, i3, i4, i5, i6, i7, i8⟩, I2, I3, I4, I5, I6, ?_⟩, ?_⟩
      · intro i p hi hp hb
        show vp_updL (τ.2 37) (8 * j + q) x3 (8 * i + p) = 0
        have hb : bt (upd (τ.1 45) j (τ.1 45 j ||| zshl 1 (nI q)) i) p = false := hb
        by_cases e : i = j
        · subst e
          rw [upd_s, b_or] at hb
          by_cases e2 : p = q
          · subst e2
            have hb2 : bt (zshl 1 (nI p)) p = true := by
              unfold zshl
              rw [b_shl p (by omega) 1 (by omega)]
              simp
              decide
            rw [hb2, Bool.or_true] at hb
            cases hb
          · rw [updL_n (by omega)]
            exact I7 i p hi hp ((Bool.or_eq_false_iff.mp hb).1)
        · rw [upd_n e] at hb
          rw [updL_n (by omega)]
          exact I7 i p hi hp hb
      · refine ⟨r1, r2, r3, r4, r5, r6, r7, r8, r9, r10, r11, r12, r13, r14, r15, r16, ?_, ?_, r19, r20, r21, r22, r23, r24⟩
        · show upd (σ.1 19) j (σ.1 19 j ||| zshl 1 (nI q)) = upd (τ.1 45) j (τ.1 45 j ||| zshl 1 (nI q))
          rw [show σ.1 19 = τ.1 45 from r17]
        · show vp_updL (σ.2 20) (8 * j + q) x3 = vp_updL (τ.2 37) (8 * j + q) x3
          rw [show σ.2 20 = τ.2 37 from r18]
    · rw [decide_eq_false hq, if_pos bi_f0, if_pos bi_f0]
      exact zOK.same h rfl rfl
  · rw [decide_eq_false hg, if_pos bi_f0, if_pos bi_f0]
    exact zOK.same h rfl rfl
