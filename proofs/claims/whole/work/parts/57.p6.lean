/-! the i-th one: loops that count up to i, and loops that count down from i -/
def zithr (P : Nat → Bool) : Nat → Nat → Nat → Nat ⊕ Nat
  | 0, _, i => .inr i
  | m + 1, k, i => bif P k then (match i with | 0 => .inl k | i + 1 => zithr P m (k + 1) i) else zithr P m (k + 1) i
def oS : Nat ⊕ Nat → Int32
  | .inl k => nI k
  | .inr _ => -1
theorem zithr_le {P : Nat → Bool} : ∀ {m k i i' : Nat}, zithr P m k i = .inr i' → i' ≤ i
  | 0, k, i, i', h => by cases h; exact Nat.le_refl _
  | m + 1, k, i, i', h => by
    unfold zithr at h
    cases hp : P k with
    | false => rw [hp] at h; exact zithr_le (m := m) h
    | true =>
      rw [hp] at h
      cases i with
      | zero => cases h
      | succ i =>
        have := zithr_le (m := m) (i := i) h
        omega
theorem zithr_congr {P Q : Nat → Bool} : ∀ {m k i : Nat}, (∀ j, k ≤ j → j < k + m → P j = Q j) → zithr P m k i = zithr Q m k i
  | 0, k, i, _ => rfl
  | m + 1, k, i, h => by
    unfold zithr
    rw [h k (Nat.le_refl _) (by omega)]
    cases Q k with
    | false => exact zithr_congr (m := m) (fun j h1 h2 => h j (by omega) (by omega))
    | true =>
      cases i with
      | zero => rfl
      | succ i => exact zithr_congr (m := m) (fun j h1 h2 => h j (by omega) (by omega))
theorem zl_down {β : Type} (G : Nat → Nat → Nat → Option β) (c L : Nat) (P : Nat → Bool) (r : Nat → Option β) (z : Nat → Option β)
    (h : ∀ n l k, k ≤ c → l ≤ L → G (n + 1) l k = if k < c then (bif P k then (if l = 0 then r k else G n (l - 1) (k + 1)) else G n l (k + 1)) else z l) :
    ∀ m n l k, k + m = c → m < n → l ≤ L → G n l k = match zithr P m k l with | .inl q => r q | .inr l' => z l' := by
  intro m
  induction m with
  | zero =>
    intro n l k hk hn hL
    obtain ⟨n, rfl⟩ : ∃ n', n = n' + 1 := ⟨n - 1, by omega⟩
    rw [h n l k (by omega) hL, if_neg (by omega)]
    rfl
  | succ m ih =>
    intro n l k hk hn hL
    obtain ⟨n, rfl⟩ : ∃ n', n = n' + 1 := ⟨n - 1, by omega⟩
    rw [h n l k (by omega) hL, if_pos (by omega)]
    unfold zithr
    cases P k with
    | false => exact ih n l (k + 1) (by omega) (by omega) hL
    | true =>
      cases l with
      | zero => rfl
      | succ l => exact ih n l (k + 1) (by omega) (by omega) (by omega)
theorem zl_up {β : Type} (F : Nat → Nat → Nat → Option β) (c j : Nat) (P : Nat → Bool) (r : Nat → Option β) (z : Nat → Option β)
    (h : ∀ n f k, k ≤ c → f ≤ j → F (n + 1) f k = if k < c then (bif P k then (if f = j then r k else F n (f + 1) (k + 1)) else F n f (k + 1)) else z f) :
    ∀ m n f k, k + m = c → m < n → f ≤ j → F n f k = match zithr P m k (j - f) with | .inl q => r q | .inr l' => z (j - l') := by
  intro m
  induction m with
  | zero =>
    intro n f k hk hn hf
    obtain ⟨n, rfl⟩ : ∃ n', n = n' + 1 := ⟨n - 1, by omega⟩
    rw [h n f k (by omega) hf, if_neg (by omega)]
    show z f = z (j - (j - f))
    rw [show j - (j - f) = f by omega]
  | succ m ih =>
    intro n f k hk hn hf
    obtain ⟨n, rfl⟩ : ∃ n', n = n' + 1 := ⟨n - 1, by omega⟩
    rw [h n f k (by omega) hf, if_pos (by omega)]
    unfold zithr
    cases P k with
    | false => exact ih n f (k + 1) (by omega) (by omega) hf
    | true =>
      by_cases e : f = j
      · subst e
        show (if f = f then r k else _) = _
        rw [if_pos rfl, Nat.sub_self]
        rfl
      · show (if f = j then r k else F n (f + 1) (k + 1)) = _
        rw [if_neg e, show j - f = (j - (f + 1)) + 1 by omega]
        exact ih n (f + 1) (k + 1) (by omega) (by omega) (by omega)
theorem zl_no {β : Type} (F : Nat → Nat → Nat → Option β) (c : Nat) (P : Nat → Bool) (z : Option β)
    (h : ∀ n f k, k ≤ c → f ≤ k → F (n + 1) f k = if k < c then (bif P k then F n (f + 1) (k + 1) else F n f (k + 1)) else z) :
    ∀ m n f k, k + m = c → m < n → f ≤ k → F n f k = z := by
  intro m
  induction m with
  | zero =>
    intro n f k hk hn hf
    obtain ⟨n, rfl⟩ : ∃ n', n = n' + 1 := ⟨n - 1, by omega⟩
    rw [h n f k (by omega) hf, if_neg (by omega)]
  | succ m ih =>
    intro n f k hk hn hf
    obtain ⟨n, rfl⟩ : ∃ n', n = n' + 1 := ⟨n - 1, by omega⟩
    rw [h n f k (by omega) hf, if_pos (by omega)]
    cases P k with
    | false => exact ih n f (k + 1) (by omega) (by omega) (by omega)
    | true => exact ih n (f + 1) (k + 1) (by omega) (by omega) (by omega)
theorem neg_nI {x : Int32} (h : x < 0) {j : Nat} (hj : j ≤ 5000) : ¬ nI j = x := fun e => nIn0 hj (e ▸ h)
/-- is a need of i missing -/
def zmis (T : zS) (i k : Nat) : Bool := (mt T (T.2 36 (6 * i + k))).isNone
theorem oI_m1 {x : Option Nat} (h : ∀ y, x = some y → y ≤ 5000) : (oI x = -1) ↔ x.isNone = true := by
  cases x with
  | none => exact ⟨fun _ => rfl, fun _ => rfl⟩
  | some y => exact ⟨fun e => absurd e (nIm1 (h y rfl)), fun e => by cases e⟩
theorem M_miss {τ : zS} (hI : zIv (zc τ)) {i : Nat} (hi : i < za (zc τ)) {j : Nat} (hj : j < 2 ^ 31) : fn_M_missing_19 100 (nI i) (nI j) 0 τ = some (oS (zithr (zmis (zc τ) i) (nc (zc τ) i) 0 j), τ) := by
  have ha : za (zc τ) ≤ 32 := hI.1.2.2.2.1
  have e44 : τ.1 44 i = nI (nc (zc τ) i) := (hI.2.1 i (by omega)).2.2.1
  have h6 : nc (zc τ) i ≤ 6 := (hI.2.1 i (by omega)).2.2.2.1
  have key := zl_down (fun n l k => fn_M_missing_19 n (nI i) (nI l) (nI k) τ) (nc (zc τ) i) j (zmis (zc τ) i) (fun k => some (nI k, τ)) (fun _ => some (-1, τ)) (fun n l k hk hl => by
    show fn_M_missing_19 (n + 1) (nI i) (nI l) (nI k) τ = _
    rw [fn_M_missing_19, zgd_t (zin_n (show i < 32 by omega) (by omega)), nIc (show i ≤ 5000 by omega), e44]
    by_cases hkc : k < nc (zc τ) i
    · rw [if_pos ((nIk hk (by omega)).mpr hkc), if_pos hkc, nI6, zgd_t (zin_n (show 6 * i + k < 192 by omega) (by omega)), nIc (show 6 * i + k ≤ 5000 by omega), M_meets hI, zb_s, nI_1]
      have hm := oI_m1 (x := mt (zc τ) (τ.2 36 (6 * i + k))) (fun y hy => by have := mt_lt hy; omega)
      have hz : zmis (zc τ) i k = (mt (zc τ) (τ.2 36 (6 * i + k))).isNone := rfl
      cases hb : zmis (zc τ) i k with
      | false =>
        rw [if_neg (fun e => by rw [hz, hm.mp e] at hb; cases hb)]
        rfl
      | true =>
        rw [if_pos (hm.mpr (hz ▸ hb))]
        cases l with
        | zero => rw [if_pos (show nI 0 = 0 from rfl)]; rfl
        | succ l => rw [if_neg (nI_ne0 (by omega) (by omega)), pk_m1]; rfl
    · rw [if_neg (fun q => hkc ((nIk hk (by omega)).mp q)), if_neg hkc]) (nc (zc τ) i) 100 j 0 (by omega) (by omega) (Nat.le_refl _)
  refine Eq.trans key ?_
  cases zithr (zmis (zc τ) i) (nc (zc τ) i) 0 j <;> rfl
theorem A_miss {σ T : zS} (hI : zIv T) (hR : zRC σ T) {i : Nat} (hi : i < za T) {j : Nat} (hj : j < 2 ^ 31) : fn_A_missingPlace (nI i) (nI j) σ = some (oS (zithr (zmis T i) (nc T i) 0 j), σ) := by
  obtain ⟨r1, r2, r3, r4, r5, r6, r7, r8, r9, r10, r11, r12, r13, r14, r15, r16, r17, r18, r19, r20, r21, r22, r23, r24⟩ := id hR
  have ha : za T ≤ 32 := hI.1.2.2.2.1
  have e16 : σ.1 16 i = nI (nc T i) := by rw [r15]; exact (hI.2.1 i (by omega)).2.2.1
  have h6 : nc T i ≤ 6 := (hI.2.1 i (by omega)).2.2.2.1
  have key := zl_up (fun n f k => fn_A_missingPlace_5 n (nI i) (nI j) (nI f) (nI k) σ) (nc T i) j (zmis T i) (fun k => some (nI k, σ)) (fun _ => some (-1, σ)) (fun n f k hk hf => by
    show fn_A_missingPlace_5 (n + 1) (nI i) (nI j) (nI f) (nI k) σ = _
    rw [fn_A_missingPlace_5, zgd_t (zin_n (show i < 32 by omega) (by omega)), nIc (show i ≤ 5000 by omega), e16]
    by_cases hkc : k < nc T i
    · rw [if_pos ((nIk hk (by omega)).mpr hkc), if_pos hkc]
      unfold fn_A_metByAt
      rw [nI6', zgd_t (zin_n (show 6 * i + k < 192 by omega) (by omega)), nIc (show 6 * i + k ≤ 5000 by omega), zb_s, nI_1, nI_1, r24 i k hi hkc]
      have hm := oI_m1 (x := mt T (T.2 36 (6 * i + k))) (fun y hy => by have := mt_lt hy; omega)
      have hz : zmis T i k = (mt T (T.2 36 (6 * i + k))).isNone := rfl
      cases hb : zmis T i k with
      | false =>
        rw [if_neg (fun e => by rw [hz, hm.mp e] at hb; cases hb)]
        rfl
      | true =>
        rw [if_pos (hm.mpr (hz ▸ hb))]
        by_cases e : f = j
        · rw [if_pos (show nI f = nI j by rw [e]), if_pos e]; rfl
        · rw [if_neg (fun q => e ((nI_eq (by omega) (by omega)).mp q)), if_neg e]; rfl
    · rw [if_neg (fun q => hkc ((nIk hk (by omega)).mp q)), if_neg hkc]) (nc T i) 100 0 0 (by omega) (by omega) (Nat.zero_le _)
  refine Eq.trans key ?_
  rw [Nat.sub_zero]
  cases zithr (zmis T i) (nc T i) 0 j <;> rfl
theorem A_miss_neg {σ T : zS} (hI : zIv T) (hR : zRC σ T) {i : Nat} (hi : i < za T) {x : Int32} (hx : x < 0) : fn_A_missingPlace (nI i) x σ = some (-1, σ) := by
  obtain ⟨r1, r2, r3, r4, r5, r6, r7, r8, r9, r10, r11, r12, r13, r14, r15, r16, r17, r18, r19, r20, r21, r22, r23, r24⟩ := id hR
  have ha : za T ≤ 32 := hI.1.2.2.2.1
  have e16 : σ.1 16 i = nI (nc T i) := by rw [r15]; exact (hI.2.1 i (by omega)).2.2.1
  have h6 : nc T i ≤ 6 := (hI.2.1 i (by omega)).2.2.2.1
  exact zl_no (fun n f k => fn_A_missingPlace_5 n (nI i) x (nI f) (nI k) σ) (nc T i) (zmis T i) (some (-1, σ)) (fun n f k hk hf => by
    show fn_A_missingPlace_5 (n + 1) (nI i) x (nI f) (nI k) σ = _
    rw [fn_A_missingPlace_5, zgd_t (zin_n (show i < 32 by omega) (by omega)), nIc (show i ≤ 5000 by omega), e16]
    by_cases hkc : k < nc T i
    · rw [if_pos ((nIk hk (by omega)).mpr hkc), if_pos hkc]
      unfold fn_A_metByAt
      rw [nI6', zgd_t (zin_n (show 6 * i + k < 192 by omega) (by omega)), nIc (show 6 * i + k ≤ 5000 by omega), zb_s, nI_1, nI_1, r24 i k hi hkc]
      have hm := oI_m1 (x := mt T (T.2 36 (6 * i + k))) (fun y hy => by have := mt_lt hy; omega)
      have hz : zmis T i k = (mt T (T.2 36 (6 * i + k))).isNone := rfl
      cases hb : zmis T i k with
      | false =>
        rw [if_neg (fun e => by rw [hz, hm.mp e] at hb; cases hb)]
        rfl
      | true =>
        rw [if_pos (hm.mpr (hz ▸ hb)), if_neg (neg_nI hx (by omega))]
        rfl
    · rw [if_neg (fun q => hkc ((nIk hk (by omega)).mp q)), if_neg hkc]) (nc T i) 100 0 0 (by omega) (by omega) (Nat.zero_le _)
/-- promise 15 -/
theorem ok_missing {σ τ : zS} (h : zRel σ τ) (x1 x2 : Int32) : zOK (fn_P_missing x1 x2 σ) (fn_M_missing x1 x2 τ) := by
  obtain ⟨hI, hR⟩ := id h
  obtain ⟨r1, r2, r3, r4, r5, r6, r7, r8, r9, r10, r11, r12, r13, r14, r15, r16, r17, r18, r19, r20, r21, r22, r23, r24⟩ := id hR
  obtain ⟨⟨i1, i2, i3, i4, i5, i6, i7, i8⟩, I2, I3, I4, I5, I6, I7⟩ := id hI
  unfold fn_P_missing fn_M_missing
  rw [A_has hI hR, zb_s, M_isArt hI, zb_s]
  by_cases hg : ∃ j : Nat, j < za (zc τ) ∧ x1 = nI j
  · rw [decide_eq_true hg, if_neg bi_t0, if_neg bi_t0]
    obtain ⟨i, hi, rfl⟩ := hg
    rcases nIcase x2 with h2 | ⟨j, hj, rfl⟩
    · rw [if_pos h2, A_miss_neg hI hR hi h2, zb_s]
      exact zOK.same h rfl rfl
    · rw [if_neg (nI_pos hj), A_miss hI hR hi hj, zb_s, M_miss hI hi hj]
      exact zOK.same h rfl rfl
  · rw [decide_eq_false hg, if_pos bi_f0, if_pos bi_f0]
    exact zOK.same h rfl rfl
