/-! promise 9 -/
theorem P_first {T : zS} (hI : zIv T) {i : Nat} (hi : i < za T) : ∀ (m n r : Nat) (σ : zS), r + m = zp T → m < n → zRC σ T → ∃ σ', fn_P_firstBrokenBy_2 n (nI i) (nI r) σ = some (oI (zfst (zbrk T i) m r), σ') ∧ FR_c σ σ' := by
  have hp : zp T ≤ 16 := hI.1.2.2.2.2.2.1
  intro m
  induction m with
  | zero =>
    intro n r σ hr hn hR
    obtain ⟨n, rfl⟩ : ∃ n', n = n' + 1 := ⟨n - 1, by omega⟩
    have e1 : σ.1 520 0 = nI (zp T) := hR.2.2.1.trans hI.1.2.2.2.2.1
    refine ⟨σ, ?_, FR_c.rf σ⟩
    rw [fn_P_firstBrokenBy_2, e1, if_neg (fun q => by have := (nIk (show r ≤ zp T by omega) (by omega)).mp q; omega)]
    rfl
  | succ m ih =>
    intro n r σ hr hn hR
    obtain ⟨n, rfl⟩ : ∃ n', n = n' + 1 := ⟨n - 1, by omega⟩
    have e1 : σ.1 520 0 = nI (zp T) := hR.2.2.1.trans hI.1.2.2.2.2.1
    obtain ⟨σ1, h1, h2⟩ := P_isBroken hI hR hi (r := r) (by omega)
    obtain ⟨σ2, h3, h4⟩ := ih n (r + 1) σ1 (by omega) (by omega) (RC_c hR h2)
    rw [fn_P_firstBrokenBy_2, e1, if_pos ((nIk (show r ≤ zp T by omega) (by omega)).mpr (by omega)), h1, zb_s, nI_1]
    unfold zfst
    cases zbrk T i r with
    | true => rw [if_neg bi_t0]; exact ⟨σ1, rfl, h2⟩
    | false => rw [if_pos bi_f0]; exact ⟨σ2, h3, h2.tr h4⟩
def zver (T : zS) (o : List Nat) : Nat → Nat → Option (Nat × Nat)
  | 0, _ => none
  | m + 1, q => match zfst (zbrk T (o.getD q 0)) (zp T) 0 with | some r => some (r, o.getD q 0) | none => zver T o m (q + 1)
def zvr (σ : zS) (k : Nat) : Option (Nat × Nat) → Option (Int32 × zS)
  | none => some (-1, σ)
  | some p => some (nI p.1, zF σ k (nI p.2))
theorem P_ver {T : zS} (hI : zIv T) {o : List Nat} (hg : zgl (za T) o) : ∀ (m n q : Nat) (σ : zS), q + m = o.length → m < n → zRC σ T → σ.1 620 0 = nI o.length → (∀ k, k < o.length → σ.1 27 k = nI (o.getD k 0)) → ∃ σ', fn_P_verdict_28 n (nI q) σ = zvr σ' 106 (zver T o m q) ∧ FR_c σ σ' := by
  have hp : zp T ≤ 16 := hI.1.2.2.2.2.2.1
  have ha : za T ≤ 32 := hI.1.2.2.2.1
  have hl := zgl_len hg
  intro m
  induction m with
  | zero =>
    intro n q σ hq hn hR h620 h27
    obtain ⟨n, rfl⟩ : ∃ n', n = n' + 1 := ⟨n - 1, by omega⟩
    refine ⟨σ, ?_, FR_c.rf σ⟩
    rw [fn_P_verdict_28, h620, if_neg (fun z => by have := (nIk (show q ≤ o.length by omega) (by omega)).mp z; omega)]
    rfl
  | succ m ih =>
    intro n q σ hq hn hR h620 h27
    obtain ⟨n, rfl⟩ : ∃ n', n = n' + 1 := ⟨n - 1, by omega⟩
    have hi := getD_lt hg (show q < o.length by omega)
    obtain ⟨σ1, h1, h2⟩ := P_first hI hi (zp T) 100 0 σ (by omega) (by omega) hR
    have h1 : fn_P_firstBrokenBy (nI (o.getD q 0)) σ = _ := h1
    obtain ⟨σ2, h3, h4⟩ := ih n (q + 1) σ1 (by omega) (by omega) (RC_c hR h2) (by rw [h2.1 620 (by decide) (by decide) (by decide)]; exact h620) (by rw [h2.1 27 (by decide) (by decide) (by decide)]; exact h27)
    rw [fn_P_verdict_28, h620, if_pos ((nIk (show q ≤ o.length by omega) (by omega)).mpr (by omega)), zgd_t (zin_n (show q < 32 by omega) (by omega)), nIc (show q ≤ 5000 by omega), h27 q (by omega), h1, zb_s, nI_1]
    unfold zver
    cases hz : zfst (zbrk T (o.getD q 0)) (zp T) 0 with
    | none =>
      rw [if_pos (show oI none = -1 from rfl)]
      exact ⟨σ2, h3, h2.tr h4⟩
    | some r =>
      have := zfst_in hz
      have hne : ¬ oI (some r) = -1 := nIm1 (by omega)
      rw [if_neg hne, zst_e]
      exact ⟨σ1, rfl, h2⟩
def JL (τ : zS) (o : List Nat) : Prop := τ.1 722 0 = nI o.length ∧ ∀ k, k < o.length → τ.1 49 k = nI (o.getD k 0)
theorem JL.fm {τ τ' : zS} {o : List Nat} (h : JL τ o) (hf : FM τ τ') : JL τ' o := ⟨by rw [hf.1 722 (by decide) (by decide)]; exact h.1, by rw [hf.1 49 (by decide) (by decide)]; exact h.2⟩
theorem M_ver1 {T : zS} (hI : zIv T) {o : List Nat} (hg : zgl (za T) o) {q : Nat} (hq : q < o.length) (k54 : Int32 → zS → Option (Int32 × zS)) : ∀ (m n r : Nat) (τ : zS), r + m = zp T → m < n → zc τ = T → JL τ o → ∃ τ', FM τ τ' ∧ fn_M_verdict_64 k54 n (nI q) (nI r) τ = match zfst (zbrk T (o.getD q 0)) m r with | some r' => some (nI r', zF τ' 720 (nI (o.getD q 0))) | none => k54 (nI (q + 1)) τ' := by
  have hp : zp T ≤ 16 := hI.1.2.2.2.2.2.1
  have ha : za T ≤ 32 := hI.1.2.2.2.1
  have hl := zgl_len hg
  have hi := getD_lt hg hq
  intro m
  induction m with
  | zero =>
    intro n r τ hr hn hT hj
    obtain ⟨n, rfl⟩ : ∃ n', n = n' + 1 := ⟨n - 1, by omega⟩
    have e1 : τ.1 702 0 = nI (zp T) := by subst hT; exact hI.1.2.2.2.2.1
    refine ⟨τ, FM.rf τ, ?_⟩
    rw [fn_M_verdict_64, e1, if_neg (fun z => by have := (nIk (show r ≤ zp T by omega) (by omega)).mp z; omega), nI_1]
    rfl
  | succ m ih =>
    intro n r τ hr hn hT hj
    obtain ⟨n, rfl⟩ : ∃ n', n = n' + 1 := ⟨n - 1, by omega⟩
    have e1 : τ.1 702 0 = nI (zp T) := by subst hT; exact hI.1.2.2.2.2.1
    obtain ⟨τ1, h1, h2⟩ := M_isBroken (τ := τ) (by rw [hT]; exact hI) (i := o.getD q 0) (by rw [hT]; exact hi) (r := r) (by omega)
    rw [hT] at h1
    have hj1 := hj.fm h2
    obtain ⟨τ2, h3, h4⟩ := ih n (r + 1) τ1 (by omega) (by omega) ((zc_fm h2).trans hT) hj1
    rw [fn_M_verdict_64, e1, if_pos ((nIk (show r ≤ zp T by omega) (by omega)).mpr (by omega)), zgd_t (zin_n (show q < 32 by omega) (by omega)), nIc (show q ≤ 5000 by omega), hj.2 q hq, h1, zb_s, nI_1]
    unfold zfst
    cases zbrk T (o.getD q 0) r with
    | true =>
      rw [if_neg bi_t0, zgd_t (zin_n (show q < 32 by omega) (by omega)), zst_e, hj1.2 q hq]
      exact ⟨τ1, h2, rfl⟩
    | false =>
      rw [if_pos bi_f0]
      exact ⟨τ2, h2.tr h3, h4⟩
theorem M_ver {T : zS} (hI : zIv T) {o : List Nat} (hg : zgl (za T) o) : ∀ (m n q : Nat) (τ : zS), q + m = o.length → m < n → zc τ = T → JL τ o → ∃ τ', fn_M_verdict_54 n (nI q) τ = zvr τ' 720 (zver T o m q) ∧ FM τ τ' := by
  have hp : zp T ≤ 16 := hI.1.2.2.2.2.2.1
  have ha : za T ≤ 32 := hI.1.2.2.2.1
  have hl := zgl_len hg
  intro m
  induction m with
  | zero =>
    intro n q τ hq hn hT hj
    obtain ⟨n, rfl⟩ : ∃ n', n = n' + 1 := ⟨n - 1, by omega⟩
    refine ⟨τ, ?_, FM.rf τ⟩
    rw [fn_M_verdict_54, hj.1, if_neg (fun z => by have := (nIk (show q ≤ o.length by omega) (by omega)).mp z; omega)]
    rfl
  | succ m ih =>
    intro n q τ hq hn hT hj
    obtain ⟨n, rfl⟩ : ∃ n', n = n' + 1 := ⟨n - 1, by omega⟩
    obtain ⟨τ1, h1, h2⟩ := M_ver1 hI hg (show q < o.length by omega) (fn_M_verdict_54 n) (zp T) 100 0 τ (by omega) (by omega) hT hj
    obtain ⟨τ2, h3, h4⟩ := ih n (q + 1) τ1 (by omega) (by omega) ((zc_fm h1).trans hT) (hj.fm h1)
    rw [fn_M_verdict_54, hj.1, if_pos ((nIk (show q ≤ o.length by omega) (by omega)).mpr (by omega))]
    have h2 : fn_M_verdict_64 (fn_M_verdict_54 n) 100 (nI q) 0 τ = _ := h2
    rw [h2]
    unfold zver
    cases zfst (zbrk T (o.getD q 0)) (zp T) 0 with
    | some r => exact ⟨τ1, rfl, h1⟩
    | none => exact ⟨τ2, h3, h1.tr h4⟩
theorem M_judge {c : Nat} (hc : c ≤ 32) : ∀ (m n k : Nat) (τ : zS), k + m = c → m < n → τ.1 722 0 = nI c →
    ∃ τ', fn_M_verdict_26 n (nI k) τ = fn_M_verdict_54 100 0 τ' ∧ (∀ j, j ≠ 49 → τ'.1 j = τ.1 j) ∧ τ'.2 = τ.2 ∧ (∀ j, j < k → τ'.1 49 j = τ.1 49 j) ∧ ∀ j, k ≤ j → j < c → τ'.1 49 j = τ.1 48 j := by
  intro m
  induction m with
  | zero =>
    intro n k τ hk hn h1
    obtain ⟨n, rfl⟩ : ∃ n', n = n' + 1 := ⟨n - 1, by omega⟩
    refine ⟨τ, ?_, fun _ _ => rfl, rfl, fun _ _ => rfl, fun j a b => absurd b (by omega)⟩
    rw [fn_M_verdict_26, h1, if_neg (fun z => by have := (nIlt (show k ≤ 5000 by omega) (show c ≤ 5000 by omega)).mp z; omega)]
  | succ m ih =>
    intro n k τ hk hn h1
    obtain ⟨n, rfl⟩ : ∃ n', n = n' + 1 := ⟨n - 1, by omega⟩
    obtain ⟨τ1, h2, h3, h4, h5, h6⟩ := ih n (k + 1) (zI τ 49 k (τ.1 48 k)) (by omega) (by omega) (by rw [zI_n _ _ _ (by decide)]; exact h1)
    refine ⟨τ1, ?_, fun j a => by rw [h3 j a, zI_n _ _ _ a], h4, fun j hj => ?_, fun j a b => ?_⟩
    · rw [fn_M_verdict_26, h1, if_pos ((nIlt (by omega) (by omega)).mpr (by omega)), zgd_t (zin_n (show k < 32 by omega) (by omega)), zgd_t (zin_n (show k < 32 by omega) (by omega)), zst_e, nIc (show k ≤ 5000 by omega), nI_1]
      exact h2
    · rw [h5 j (by omega), zI_s, upd_n (by omega)]
    · by_cases e : j = k
      · subst e; rw [h5 j (by omega), zI_s, upd_s]
      · rw [h6 j (by omega) b, zI_n _ _ _ (by decide)]
theorem zRel_mv {σ τ σ' τ' : zS} (h : zRel σ τ) (hR : zRC σ' (zc τ)) (hT : zc τ' = zc τ) : zRel σ' τ' := ⟨by rw [hT]; exact h.1, by rw [hT]; exact hR⟩
/-- promise 9 -/
theorem ok_verdict {σ τ : zS} (h : zRel σ τ) (x1 : Int32) : zOK (fn_P_verdict x1 σ) (fn_M_verdict x1 τ) := by
  obtain ⟨hI, hR⟩ := id h
  have ha : za (zc τ) ≤ 32 := hI.1.2.2.2.1
  unfold fn_P_verdict fn_M_verdict
  rw [A_has hI hR, zb_s, M_isArt hI, zb_s]
  by_cases hg : ∃ j : Nat, j < za (zc τ) ∧ x1 = nI j
  · rw [decide_eq_true hg, if_neg bi_t0, if_neg bi_t0]
    obtain ⟨i, hi, rfl⟩ := hg
    obtain ⟨σ1, hs1, hs2, hs3⟩ := Q_walk_w ha (WK_w.of hI hR) hi
    obtain ⟨τ1, ht1, ht2, ht3⟩ := M_goAlong hI hi
    rw [hs1, zb_s, ht1, zb_s, zst_e]
    have hgl := clo_gl (T := zc τ) hi
    have hlen := zgl_len hgl
    generalize clo (zc τ) i = o at *
    obtain ⟨τ2, hk1, hk2, hk3, -, hk5⟩ := M_judge (c := o.length) (by omega) o.length 100 0 (zF τ1 722 (τ1.1 721 0)) (by omega) (by omega) ht2.1
    have hk1 : fn_M_verdict_26 100 0 (zF τ1 722 (τ1.1 721 0)) = _ := hk1
    rw [hk1]
    have hT2 : zc τ2 = zc τ := zc_of (fun j hj => by
      rw [hk2 j (fun e => by subst e; cases hj), zF_n _ _ (fun e => by subst e; cases hj), ht3.1 j (fun e => by subst e; cases hj) (fun e => by subst e; cases hj)]) (hk3.trans ht3.2)
    have hj2 : JL τ2 o := ⟨by rw [hk2 722 (by decide), zF_s]; exact ht2.1, fun k hk => by rw [hk5 k (by omega) hk, zF_n _ _ (by decide)]; exact ht2.2 k hk⟩
    obtain ⟨τ3, hv1, hv2⟩ := M_ver hI hgl o.length 100 0 τ2 (by omega) (by omega) hT2 hj2
    obtain ⟨σ3, hu1, hu2⟩ := P_ver hI hgl o.length 100 0 σ1 (by omega) (by omega) (RC_w hR hs3) hs2.1 hs2.2.1
    have hv1 : fn_M_verdict_54 100 0 τ2 = _ := hv1
    have hu1 : fn_P_verdict_28 100 0 σ1 = _ := hu1
    rw [hv1, hu1]
    have hT3 : zc τ3 = zc τ := (zc_fm hv2).trans hT2
    have hR3 : zRC σ3 (zc τ) := RC_c (RC_w hR hs3) hu2
    cases zver (zc τ) o o.length 0 with
    | none => exact ⟨-1, σ3, τ3, rfl, rfl, zRel_mv h hR3 hT3⟩
    | some p =>
      have hI3 : zIv (zc τ3) := by rw [hT3]; exact hI
      have hR3 : zRC σ3 (zc τ3) := by rw [hT3]; exact hR3
      obtain ⟨r1, r2, r3, r4, r5, r6, r7, r8, r9, r10, r11, r12, r13, r14, r15, r16, r17, r18, r19, r20, r21, r22, r23, r24⟩ := hR3
      obtain ⟨⟨i1, i2, i3, i4, i5, i6, i7, i8⟩, I2, I3, I4, I5, I6, I7⟩ := hI3
      exact ⟨nI p.1, zF σ3 106 (nI p.2), zF τ3 720 (nI p.2), rfl, rfl, ⟨⟨i1, i2, i3, i4, i5, i6, i7, i8⟩, I2, I3, I4, I5, I6, I7⟩, ⟨r1, r2, r3, r4, r5, r6, r7, r8, r9, r10, r11, r12, r13, r14, r15, r16, r17, r18, r19, r20, rfl, r22, r23, r24⟩⟩
  · rw [decide_eq_false hg, if_pos bi_f0, if_pos bi_f0]
    exact zOK.same h rfl rfl
/-! promise 14 -/
def zud (T : zS) (d : Int64) (i : Nat) : Bool := zany (fun k => decide (T.2 31 (us T (6 * i + k)) = d)) (uc T i) 0
def zrest (T : zS) (d : Int64) (a : Nat) : Bool := zany (fun q => zud T d ((clo T a).getD q 0)) (clo T a).length 0
theorem P_usesDigest {σ T : zS} (hI : zIv T) (hR : zRC σ T) {i : Nat} (hi : i < 32) (d : Int64) : fn_P_usesDigest (nI i) d σ = some (bi (zud T d i), σ) := by
  obtain ⟨r1, r2, r3, r4, r5, r6, r7, r8, r9, r10, r11, r12, r13, r14, r15, r16, r17, r18, r19, r20, r21, r22, r23, r24⟩ := id hR
  have e1 : σ.1 13 i = nI (uc T i) := by rw [r13]; exact (hI.2.1 i hi).1
  have hc : uc T i ≤ 6 := (hI.2.1 i hi).2.1
  refine zl_anyf (fun n k => fn_P_usesDigest_3 n (nI i) d (nI k) σ) (uc T i) (fun k => decide (T.2 31 (us T (6 * i + k)) = d)) (fun n k hk => ?_) 100 (by omega)
  show fn_P_usesDigest_3 (n + 1) (nI i) d (nI k) σ = _
  rw [fn_P_usesDigest_3, zgd_t (zin_n hi (by omega)), nIc (show i ≤ 5000 by omega), e1]
  by_cases hkc : k < uc T i
  · have hu := (hI.2.2.1 i k hi hkc).2
    have hn24 : zn T ≤ 24 := hI.1.2.1
    rw [if_pos ((nIk hk (by omega)).mpr hkc), if_pos hkc, A_usedAt hI hR hi hkc, zb_s, zgd_t (zin_n (show us T (6 * i + k) < 24 by omega) (by omega)), nIc (show us T (6 * i + k) ≤ 5000 by omega), nI_1, r4]
    by_cases hp : T.2 31 (us T (6 * i + k)) = d
    · rw [if_pos ((lg_cmp_eq _ _).mpr hp), decide_eq_true hp]; rfl
    · rw [if_neg (fun e => hp ((lg_cmp_eq _ _).mp e)), decide_eq_false hp]; rfl
  · rw [if_neg (fun q => hkc ((nIk hk (by omega)).mp q)), if_neg hkc]
theorem P_restsOn {σ T : zS} (hI : zIv T) (hR : zRC σ T) {a : Nat} (hi : a < za T) (d : Int64) : ∃ σ', fn_P_restsOn (nI a) d σ = some (bi (zrest T d a), σ') ∧ FR_w σ σ' := by
  have ha : za T ≤ 32 := hI.1.2.2.2.1
  obtain ⟨σ1, h1, h2, h3⟩ := Q_walk_w ha (WK_w.of hI hR) hi
  unfold fn_P_restsOn zrest
  rw [h1, zb_s]
  have hgl := clo_gl (T := T) hi
  have hlen := zgl_len hgl
  generalize clo T a = o at *
  have hR1 := RC_w hR h3
  refine ⟨σ1, ?_, h3⟩
  refine zl_anyf (fun n k => fn_P_restsOn_15 n d (nI k) σ1) o.length (fun q => zud T d (o.getD q 0)) (fun n k hk => ?_) 100 (by omega)
  show fn_P_restsOn_15 (n + 1) d (nI k) σ1 = _
  rw [fn_P_restsOn_15, h2.1]
  by_cases hkc : k < o.length
  · have hlt := getD_lt hgl hkc
    rw [if_pos ((nIk hk (by omega)).mpr hkc), if_pos hkc, zgd_t (zin_n (show k < 32 by omega) (by omega)), nIc (show k ≤ 5000 by omega), h2.2.1 k hkc, P_usesDigest hI hR1 (show o.getD k 0 < 32 by omega), zb_s, nI_1]
    cases zud T d (o.getD k 0) with
    | false => rw [if_pos bi_f0]; rfl
    | true => rw [if_neg bi_t0]; rfl
  · rw [if_neg (fun q => hkc ((nIk hk (by omega)).mp q)), if_neg hkc]
theorem P_holds {T : zS} (hI : zIv T) (d : Int64) {j : Nat} (hj : j < 2 ^ 31) : ∀ (m n a f : Nat) (σ : zS), a + m = za T → m < n → f ≤ j → zRC σ T → ∃ σ', fn_P_holds_6 n d (nI j) (nI f) (nI a) σ = some (oS (zithr (zrest T d) m a (j - f)), σ') ∧ FR_w σ σ' := by
  have hc : za T ≤ 32 := hI.1.2.2.2.1
  intro m
  induction m with
  | zero =>
    intro n a f σ ha hn hf hR
    obtain ⟨n, rfl⟩ : ∃ n', n = n' + 1 := ⟨n - 1, by omega⟩
    have e1 : σ.1 220 0 = nI (za T) := hR.2.1.trans hI.1.2.2.1
    refine ⟨σ, ?_, FR_w.rf σ⟩
    rw [fn_P_holds_6, e1, if_neg (fun q => by have := (nIk (show a ≤ za T by omega) (by omega)).mp q; omega)]
    rfl
  | succ m ih =>
    intro n a f σ ha hn hf hR
    obtain ⟨n, rfl⟩ : ∃ n', n = n' + 1 := ⟨n - 1, by omega⟩
    have e1 : σ.1 220 0 = nI (za T) := hR.2.1.trans hI.1.2.2.1
    obtain ⟨σ1, h1, h2⟩ := P_restsOn hI hR (show a < za T by omega) d
    rw [fn_P_holds_6, e1, if_pos ((nIk (show a ≤ za T by omega) (by omega)).mpr (by omega)), h1, zb_s, nI_1, nI_1]
    unfold zithr
    cases zrest T d a with
    | false =>
      rw [if_pos bi_f0]
      obtain ⟨σ2, h3, h4⟩ := ih n (a + 1) f σ1 (by omega) (by omega) hf (RC_w hR h2)
      exact ⟨σ2, h3, h2.tr h4⟩
    | true =>
      rw [if_neg bi_t0]
      by_cases e : f = j
      · rw [if_pos (show nI f = nI j by rw [e]), e, Nat.sub_self]
        exact ⟨σ1, rfl, h2⟩
      · rw [if_neg (fun q => e ((nI_eq (by omega) (by omega)).mp q))]
        obtain ⟨σ2, h3, h4⟩ := ih n (a + 1) (f + 1) σ1 (by omega) (by omega) (by omega) (RC_w hR h2)
        rw [show j - f = (j - (f + 1)) + 1 by omega]
        exact ⟨σ2, h3, h2.tr h4⟩
theorem P_holds_neg {T : zS} (hI : zIv T) (d : Int64) {x : Int32} (hx : x < 0) : ∀ (m n a f : Nat) (σ : zS), a + m = za T → m < n → f ≤ a → zRC σ T → ∃ σ', fn_P_holds_6 n d x (nI f) (nI a) σ = some (-1, σ') ∧ FR_w σ σ' := by
  have hc : za T ≤ 32 := hI.1.2.2.2.1
  intro m
  induction m with
  | zero =>
    intro n a f σ ha hn hf hR
    obtain ⟨n, rfl⟩ : ∃ n', n = n' + 1 := ⟨n - 1, by omega⟩
    have e1 : σ.1 220 0 = nI (za T) := hR.2.1.trans hI.1.2.2.1
    refine ⟨σ, ?_, FR_w.rf σ⟩
    rw [fn_P_holds_6, e1, if_neg (fun q => by have := (nIk (show a ≤ za T by omega) (by omega)).mp q; omega)]
  | succ m ih =>
    intro n a f σ ha hn hf hR
    obtain ⟨n, rfl⟩ : ∃ n', n = n' + 1 := ⟨n - 1, by omega⟩
    have e1 : σ.1 220 0 = nI (za T) := hR.2.1.trans hI.1.2.2.1
    obtain ⟨σ1, h1, h2⟩ := P_restsOn hI hR (show a < za T by omega) d
    rw [fn_P_holds_6, e1, if_pos ((nIk (show a ≤ za T by omega) (by omega)).mpr (by omega)), h1, zb_s, nI_1, nI_1]
    cases zrest T d a with
    | false =>
      rw [if_pos bi_f0]
      obtain ⟨σ2, h3, h4⟩ := ih n (a + 1) f σ1 (by omega) (by omega) (by omega) (RC_w hR h2)
      exact ⟨σ2, h3, h2.tr h4⟩
    | true =>
      rw [if_neg bi_t0, if_neg (neg_nI hx (by omega))]
      obtain ⟨σ2, h3, h4⟩ := ih n (a + 1) (f + 1) σ1 (by omega) (by omega) (by omega) (RC_w hR h2)
      exact ⟨σ2, h3, h2.tr h4⟩
theorem M_hold1 {τ : zS} (hI : zIv (zc τ)) {o : List Nat} (hc : ML τ o) (hg : zgl (za (zc τ)) o) {q : Nat} (hq : q < o.length) (d : Int64) (x3 x4 x5 : Int32) (k6 : Int64 → Int32 → Int32 → Int32 → zS → Option (Int32 × zS)) (k31 : Int64 → Int32 → Int32 → Int32 → Int32 → Int32 → zS → Option (Int32 × zS)) (b : Bool) :
    fn_M_holds_43 k6 k31 100 d x3 x4 x5 (bi b) (nI q) 0 τ = k31 d x3 x4 x5 (bi (b || zud (zc τ) d (o.getD q 0))) (nI (q + 1)) τ := by
  have ha : za (zc τ) ≤ 32 := hI.1.2.2.2.1
  have hl := zgl_len hg
  have hi := getD_lt hg hq
  have e48 := hc.2 q hq
  generalize o.getD q 0 = i at *
  have e1 : τ.1 42 i = nI (uc (zc τ) i) := (hI.2.1 i (by omega)).1
  have h6 : uc (zc τ) i ≤ 6 := (hI.2.1 i (by omega)).2.1
  refine zl_any (fun n b u => fn_M_holds_43 k6 k31 n d x3 x4 x5 (bi b) (nI q) (nI u) τ) (uc (zc τ) i) (fun k => decide ((zc τ).2 31 (us (zc τ) (6 * i + k)) = d)) (fun b => k31 d x3 x4 x5 (bi b) (nI (q + 1)) τ) (fun n b u hu => ?_) (uc (zc τ) i) 100 b 0 (by omega) (by omega)
  show fn_M_holds_43 k6 k31 (n + 1) d x3 x4 x5 (bi b) (nI q) (nI u) τ = _
  rw [fn_M_holds_43, zgd_t (zin_n (show q < 32 by omega) (by omega)), nIc (show q ≤ 5000 by omega), e48, zgd_t (zin_n (show i < 32 by omega) (by omega)), nIc (show i ≤ 5000 by omega), e1]
  by_cases huc : u < uc (zc τ) i
  · have hus := (hI.2.2.1 i u (by omega) huc).2
    have eu : τ.1 43 (6 * i + u) = nI (us (zc τ) (6 * i + u)) := (hI.2.2.1 i u (by omega) huc).1
    have hn24 : zn (zc τ) ≤ 24 := hI.1.2.1
    rw [if_pos ((nIk hu (by omega)).mpr huc), if_pos huc, nI_1]
    cases b with
    | true => rw [if_neg bi_t0]; rfl
    | false =>
      rw [if_pos bi_f0, zgd_t (zin_n (show q < 32 by omega) (by omega)), nI6, zgd_t (zin_n (show 6 * i + u < 192 by omega) (by omega)), nIc (show 6 * i + u ≤ 5000 by omega), eu, zgd_t (zin_n (show us (zc τ) (6 * i + u) < 24 by omega) (by omega)), nIc (show us (zc τ) (6 * i + u) ≤ 5000 by omega)]
      by_cases hp : τ.2 31 (us (zc τ) (6 * i + u)) = d
      · have hp' : (zc τ).2 31 (us (zc τ) (6 * i + u)) = d := hp
        rw [if_pos ((lg_cmp_eq _ _).mpr hp), decide_eq_true hp']; rfl
      · have hp' : ¬ (zc τ).2 31 (us (zc τ) (6 * i + u)) = d := hp
        rw [if_neg (fun e => hp ((lg_cmp_eq _ _).mp e)), decide_eq_false hp']; rfl
  · rw [if_neg (fun z => huc ((nIk hu (by omega)).mp z)), if_neg huc, nI_1]
/-- what follows when the closure is gone along -/
def zhe (k6 : Int64 → Int32 → Int32 → Int32 → zS → Option (Int32 × zS)) (d : Int64) (x3 x4 x5 : Int32) (τ : zS) (b : Bool) : Option (Int32 × zS) := bif b then (if x4 = 0 then some (x5, τ) else k6 d x3 (x4 - 1) (x5 + 1) τ) else k6 d x3 (x4 - 0) (x5 + 1) τ
theorem M_hold2 {τ : zS} (hI : zIv (zc τ)) {o : List Nat} (hc : ML τ o) (hg : zgl (za (zc τ)) o) (d : Int64) (x3 x4 x5 : Int32) (k6 : Int64 → Int32 → Int32 → Int32 → zS → Option (Int32 × zS)) :
    fn_M_holds_31 k6 100 d x3 x4 x5 0 0 τ = zhe k6 d x3 x4 x5 τ (zany (fun q => zud (zc τ) d (o.getD q 0)) o.length 0) := by
  have ha : za (zc τ) ≤ 32 := hI.1.2.2.2.1
  have hl := zgl_len hg
  refine zl_any (fun n b q => fn_M_holds_31 k6 n d x3 x4 x5 (bi b) (nI q) τ) o.length (fun q => zud (zc τ) d (o.getD q 0)) (fun b => zhe k6 d x3 x4 x5 τ b) (fun n b q hq => ?_) o.length 100 false 0 (by omega) (by omega)
  show fn_M_holds_31 k6 (n + 1) d x3 x4 x5 (bi b) (nI q) τ = _
  rw [fn_M_holds_31, hc.1]
  by_cases hqc : q < o.length
  · rw [if_pos ((nIk hq (by omega)).mpr hqc), if_pos hqc]
    exact M_hold1 hI hc hg hqc d x3 x4 x5 k6 (fn_M_holds_31 k6 n) b
  · rw [if_neg (fun z => hqc ((nIk hq (by omega)).mp z)), if_neg hqc]
    cases b with
    | false => rw [if_pos bi_f0, if_pos bi_f0]; rfl
    | true => rw [if_neg bi_t0, if_neg bi_t0]; rfl
theorem M_holds {T : zS} (hI : zIv T) (d : Int64) {j : Nat} (hj : j < 2 ^ 31) : ∀ (m n a l : Nat) (τ : zS), a + m = za T → m < n → l ≤ j → zc τ = T → ∃ τ', fn_M_holds_6 n d (nI j) (nI l) (nI a) τ = some (oS (zithr (zrest T d) m a l), τ') ∧ FM τ τ' := by
  have hc : za T ≤ 32 := hI.1.2.2.2.1
  intro m
  induction m with
  | zero =>
    intro n a l τ ha hn hl hT
    obtain ⟨n, rfl⟩ : ∃ n', n = n' + 1 := ⟨n - 1, by omega⟩
    have e1 : τ.1 701 0 = nI (za T) := by subst hT; exact hI.1.2.2.1
    refine ⟨τ, ?_, FM.rf τ⟩
    rw [fn_M_holds_6, e1, if_neg (fun q => by have := (nIk (show a ≤ za T by omega) (by omega)).mp q; omega)]
    rfl
  | succ m ih =>
    intro n a l τ ha hn hl hT
    obtain ⟨n, rfl⟩ : ∃ n', n = n' + 1 := ⟨n - 1, by omega⟩
    have e1 : τ.1 701 0 = nI (za T) := by subst hT; exact hI.1.2.2.1
    obtain ⟨τ1, h1, h2, h3⟩ := M_goAlong (τ := τ) (by rw [hT]; exact hI) (i := a) (by rw [hT]; omega)
    have hT1 : zc τ1 = T := (zc_fm h3).trans hT
    have hgl := clo_gl (T := T) (show a < za T by omega)
    rw [hT] at h2
    have k2 := M_hold2 (τ := τ1) (by rw [hT1]; exact hI) h2 (by rw [hT1]; exact hgl) d (nI j) (nI l) (nI a) (fn_M_holds_6 n)
    rw [hT1] at k2
    rw [fn_M_holds_6, e1, if_pos ((nIk (show a ≤ za T by omega) (by omega)).mpr (by omega)), if_neg (nI_pos hj), h1, zb_s, k2]
    show ∃ τ', zhe (fn_M_holds_6 n) d (nI j) (nI l) (nI a) τ1 (zrest T d a) = _ ∧ _
    unfold zithr zhe
    rw [nI_1]
    have h0 : nI l - (0 : Int32) = nI l := by
      show nI l - nI 0 = _
      rw [pk_sub (Nat.zero_le _), Nat.sub_zero]
    cases zrest T d a with
    | false =>
      obtain ⟨τ2, h4, h5⟩ := ih n (a + 1) l τ1 (by omega) (by omega) hl hT1
      refine ⟨τ2, ?_, h3.tr h5⟩
      show fn_M_holds_6 n d (nI j) (nI l - 0) (nI (a + 1)) τ1 = _
      rw [h0]
      exact h4
    | true =>
      cases l with
      | zero => exact ⟨τ1, rfl, h3⟩
      | succ l =>
        obtain ⟨τ2, h4, h5⟩ := ih n (a + 1) l τ1 (by omega) (by omega) (by omega) hT1
        refine ⟨τ2, ?_, h3.tr h5⟩
        show (if nI (l + 1) = 0 then some (nI a, τ1) else fn_M_holds_6 n d (nI j) (nI (l + 1) - 1) (nI (a + 1)) τ1) = _
        rw [if_neg (nI_ne0 (by omega) (by omega)), nI_pred]
        exact h4
/-- promise 14 -/
theorem ok_holds {σ τ : zS} (h : zRel σ τ) (d : Int64) (x : Int32) : zOK (fn_P_holds d x σ) (fn_M_holds d x τ) := by
  obtain ⟨hI, hR⟩ := id h
  have ha : za (zc τ) ≤ 32 := hI.1.2.2.2.1
  rcases nIcase x with hx | ⟨j, hj, rfl⟩
  · obtain ⟨σ1, h1, h2⟩ := P_holds_neg hI d hx (za (zc τ)) 100 0 0 σ (by omega) (by omega) (by omega) hR
    refine ⟨-1, σ1, τ, h1, ?_, zRel_mv h (RC_w hR h2) rfl⟩
    show fn_M_holds_6 (99 + 1) d x x 0 τ = _
    rw [fn_M_holds_6, if_pos hx]
    by_cases hz : (0 : Int32) < τ.1 701 0
    · rw [if_pos hz]
    · rw [if_neg hz]
  · obtain ⟨σ1, h1, h2⟩ := P_holds hI d hj (za (zc τ)) 100 0 0 σ (by omega) (by omega) (Nat.zero_le _) hR
    obtain ⟨τ1, h3, h4⟩ := M_holds hI d hj (za (zc τ)) 100 0 j τ (by omega) (by omega) (Nat.le_refl _) rfl
    exact ⟨_, σ1, τ1, h1, h3, zRel_mv h (RC_w hR h2) (zc_fm h4)⟩
