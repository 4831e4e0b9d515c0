/-! promise 4: the class keeps, beside each need, what meets it -/
def zG (σ : zS) (g : Nat → Int32) : zS := (zU σ.1 18 g, σ.2)
theorem zG_18 (σ : zS) (g : Nat → Int32) : (zG σ g).1 18 = g := zU_s σ.1 18 g
theorem zG_n (σ : zS) (g : Nat → Int32) {j : Nat} (h : j ≠ 18) : (zG σ g).1 j = σ.1 j := zU_n _ _ h
theorem zG_2 (σ : zS) (g : Nat → Int32) : (zG σ g).2 = σ.2 := rfl
theorem zG_self (σ : zS) : zG σ (σ.1 18) = σ := by
  unfold zG
  have : zU σ.1 18 (σ.1 18) = σ.1 := by
    funext j
    by_cases e : j = 18
    · subst e; exact zU_s _ _ _
    · exact zU_n _ _ e
  rw [this]
theorem zG_I (σ : zS) (g : Nat → Int32) (i : Nat) (v : Int32) : zI (zG σ g) 18 i v = zG σ (upd g i v) := by
  unfold zI zG
  have : zU (zU σ.1 18 g) 18 (upd ((zU σ.1 18 g) 18) i v) = zU σ.1 18 (upd g i v) := by
    funext j
    by_cases e : j = 18
    · subst e; rw [zU_s, zU_s, zU_s]
    · rw [zU_n _ _ e, zU_n _ _ e, zU_n _ _ e]
  show ((zU (zU σ.1 18 g) 18 (upd ((zU σ.1 18 g) 18) i v), σ.2) : zS) = _
  rw [this]
theorem meet_row {σ : zS} {a i c : Nat} (ha : a < 32) (hi : i < 32) (hc : c ≤ 6) (e1 : σ.1 16 i = nI c) (k2 : Int32 → Int32 → zS → Option (Unit × zS)) : ∀ (m n k : Nat) (g : Nat → Int32), k + m = c → m < n →
    ∃ g' : Nat → Int32, fn_A_meetMissing_12 k2 n (nI a) (nI i) (nI k) (zG σ g) = k2 (nI a) (nI (i + 1)) (zG σ g') ∧ ∀ q, g' q = if (6 * i + k ≤ q ∧ q < 6 * i + c ∧ σ.2 17 q = σ.2 7 a) ∧ g q = -1 then nI a else g q := by
  intro m
  induction m with
  | zero =>
    intro n k g hk hn
    obtain ⟨n, rfl⟩ : ∃ n', n = n' + 1 := ⟨n - 1, by omega⟩
    refine ⟨g, ?_, fun q => by rw [if_neg (by omega)]⟩
    rw [fn_A_meetMissing_12, zgd_t (zin_n hi (by omega)), nIc (show i ≤ 5000 by omega), zG_n σ g (by decide), e1, if_neg (fun q => by have := (nIk (show k ≤ c by omega) (by omega)).mp q; omega), nI_1]
  | succ m ih =>
    intro n k g hk hn
    obtain ⟨n, rfl⟩ : ∃ n', n = n' + 1 := ⟨n - 1, by omega⟩
    rw [fn_A_meetMissing_12, zgd_t (zin_n hi (by omega)), nIc (show i ≤ 5000 by omega), zG_n σ g (by decide), e1, if_pos ((nIk (show k ≤ c by omega) (by omega)).mpr (by omega))]
    unfold fn_W_valueAt_n
    rw [nI6', zgd_t (zin_n (show 6 * i + k < 192 by omega) (by omega)), nIc (show 6 * i + k ≤ 5000 by omega), zb_s, zgd_t (zin_n ha (by omega)), nIc (show a ≤ 5000 by omega), zG_2]
    unfold fn_A_meetMissing_49 fn_A_metByAt
    rw [nI6', zgd_t (zin_n (show 6 * i + k < 192 by omega) (by omega)), nIc (show 6 * i + k ≤ 5000 by omega), zb_s, zG_18, zgd_t (zin_n (show 6 * i + k < 192 by omega) (by omega)), zst_e, zG_I, nI_1]
    by_cases hv : σ.2 17 (6 * i + k) = σ.2 7 a
    · rw [if_pos ((lg_cmp_eq _ _).mpr hv), if_neg (by decide : ¬ (1 : Int32) = 0)]
      by_cases hg : g (6 * i + k) = -1
      · rw [if_pos hg]
        obtain ⟨g', h1, h2⟩ := ih n (k + 1) (upd g (6 * i + k) (nI a)) (by omega) (by omega)
        refine ⟨g', h1, fun q => ?_⟩
        rw [h2 q]
        by_cases e : q = 6 * i + k
        · subst e
          rw [upd_s, if_neg (by omega), if_pos ⟨⟨by omega, by omega, hv⟩, hg⟩]
        · rw [upd_n e]
          by_cases hq : (6 * i + (k + 1) ≤ q ∧ q < 6 * i + c ∧ σ.2 17 q = σ.2 7 a) ∧ g q = -1
          · rw [if_pos hq, if_pos ⟨⟨by omega, hq.1.2.1, hq.1.2.2⟩, hq.2⟩]
          · rw [if_neg hq, if_neg (fun z => hq ⟨⟨by omega, z.1.2.1, z.1.2.2⟩, z.2⟩)]
      · rw [if_neg hg]
        obtain ⟨g', h1, h2⟩ := ih n (k + 1) g (by omega) (by omega)
        refine ⟨g', h1, fun q => ?_⟩
        rw [h2 q]
        by_cases e : q = 6 * i + k
        · subst e
          rw [if_neg (by omega), if_neg (fun z => hg z.2)]
        · by_cases hq : (6 * i + (k + 1) ≤ q ∧ q < 6 * i + c ∧ σ.2 17 q = σ.2 7 a) ∧ g q = -1
          · rw [if_pos hq, if_pos ⟨⟨by omega, hq.1.2.1, hq.1.2.2⟩, hq.2⟩]
          · rw [if_neg hq, if_neg (fun z => hq ⟨⟨by omega, z.1.2.1, z.1.2.2⟩, z.2⟩)]
    · rw [if_neg (fun e => hv ((lg_cmp_eq _ _).mp e)), if_pos rfl]
      obtain ⟨g', h1, h2⟩ := ih n (k + 1) g (by omega) (by omega)
      refine ⟨g', h1, fun q => ?_⟩
      rw [h2 q]
      by_cases e : q = 6 * i + k
      · subst e
        rw [if_neg (by omega), if_neg (fun z => hv z.1.2.2)]
      · by_cases hq : (6 * i + (k + 1) ≤ q ∧ q < 6 * i + c ∧ σ.2 17 q = σ.2 7 a) ∧ g q = -1
        · rw [if_pos hq, if_pos ⟨⟨by omega, hq.1.2.1, hq.1.2.2⟩, hq.2⟩]
        · rw [if_neg hq, if_neg (fun z => hq ⟨⟨by omega, z.1.2.1, z.1.2.2⟩, z.2⟩)]
theorem meet_all {σ : zS} {a : Nat} {cn : Nat → Nat} (ha : a < 32) (hcn : ∀ i, i < 32 → σ.1 16 i = nI (cn i) ∧ cn i ≤ 6) (h2 : σ.1 220 0 = nI (a + 1)) : ∀ (m n i : Nat) (g : Nat → Int32), i + m = a + 1 → m < n →
    ∃ g' : Nat → Int32, fn_A_meetMissing_2 n (nI a) (nI i) (zG σ g) = some ((), zG σ g') ∧ (∀ q, q < 6 * i → g' q = g q) ∧ ∀ i' k', i ≤ i' → i' < a + 1 → k' < cn i' → g' (6 * i' + k') = if σ.2 17 (6 * i' + k') = σ.2 7 a ∧ g (6 * i' + k') = -1 then nI a else g (6 * i' + k') := by
  intro m
  induction m with
  | zero =>
    intro n i g hk hn
    obtain ⟨n, rfl⟩ : ∃ n', n = n' + 1 := ⟨n - 1, by omega⟩
    refine ⟨g, ?_, fun _ _ => rfl, fun i' k' h1 h2 _ => absurd h2 (by omega)⟩
    rw [fn_A_meetMissing_2, zG_n σ g (by decide), h2, if_neg (fun q => by have := (nIk (show i ≤ a + 1 by omega) (by omega)).mp q; omega)]
  | succ m ih =>
    intro n i g hk hn
    obtain ⟨n, rfl⟩ : ∃ n', n = n' + 1 := ⟨n - 1, by omega⟩
    have hi : i < 32 := by omega
    obtain ⟨e1, hc⟩ := hcn i hi
    rw [fn_A_meetMissing_2, zG_n σ g (by decide), h2, if_pos ((nIk (show i ≤ a + 1 by omega) (by omega)).mpr (by omega))]
    obtain ⟨g1, h3, h4⟩ := meet_row ha hi hc e1 (fn_A_meetMissing_2 n) (cn i) 100 0 g (by omega) (by omega)
    obtain ⟨g2, h5, h6, h7⟩ := ih n (i + 1) g1 (by omega) (by omega)
    refine ⟨g2, ?_, fun q hq => ?_, fun i' k' hi' hi2 hk' => ?_⟩
    · exact h3.trans h5
    · rw [h6 q (by omega), h4 q, if_neg (by omega)]
    · have hk6 : k' < 6 := Nat.lt_of_lt_of_le hk' (hcn i' (by omega)).2
      by_cases e : i' = i
      · subst e
        rw [h6 _ (by omega), h4 _]
        by_cases hq : σ.2 17 (6 * i' + k') = σ.2 7 a ∧ g (6 * i' + k') = -1
        · rw [if_pos hq, if_pos ⟨⟨by omega, by omega, hq.1⟩, hq.2⟩]
        · rw [if_neg hq, if_neg (fun z => hq ⟨z.1.2.2, z.2⟩)]
      · have hz : g1 (6 * i' + k') = g (6 * i' + k') := by rw [h4 _, if_neg (by omega)]
        rw [h7 i' k' (by omega) hi2 hk', hz]
theorem zfst_last {P : Nat → Bool} : ∀ (m k : Nat), zfst P (m + 1) k = match zfst P m k with | some j => some j | none => bif P (k + m) then some (k + m) else none
  | 0, k => by
    show (bif P k then some k else none) = _
    rfl
  | m + 1, k => by
    have ih := zfst_last (P := P) m (k + 1)
    conv => lhs; unfold zfst
    conv => rhs; unfold zfst
    cases P k with
    | true => rfl
    | false =>
      show zfst P (m + 1) (k + 1) = _
      rw [ih, show k + 1 + m = k + (m + 1) by omega]
      rfl
theorem lt_m1 (x : Int32) : (¬ x < (-1 : Int32) ∧ ¬ (7 : Int32) < x) ↔ (x = -1 ∨ (¬ x < 0 ∧ ¬ (7 : Int32) < x)) := by
  have e1 : (-1 : Int32).toInt = -1 := by decide
  have e2 : (0 : Int32).toInt = 0 := by decide
  have e3 : (7 : Int32).toInt = 7 := by decide
  have e4 : x = -1 ↔ x.toInt = -1 := ⟨fun h => by rw [h]; exact e1, fun h => Int32.toInt_inj.mp (h.trans e1.symm)⟩
  rw [e4, Int32.lt_iff_toInt_lt, Int32.lt_iff_toInt_lt, Int32.lt_iff_toInt_lt, e1, e2, e3]
  omega
/-- what must hold of a new one -/
def zgood (x3 x4 x5 x6 : Int32) : Bool := decide (¬ x3 < (-1 : Int32) ∧ ¬ (7 : Int32) < x3) && (decide (¬ x4 < 0 ∧ ¬ (7 : Int32) < x4) && (decide (¬ x5 < 0 ∧ ¬ (15 : Int32) < x5) && decide (¬ x6 < 0 ∧ ¬ (1000000000 : Int32) < x6)))
theorem M_art (x1 : Int64) (x3 x4 x5 x6 : Int32) (τ : zS) : fn_M_artefact x1 x3 x4 x5 x6 τ = fn_M_artefact_48 x1 x3 x4 x5 x6 (bi (zgood x3 x4 x5 x6)) τ := by
  unfold fn_M_artefact fn_M_artefact_47 zgood
  rw [M_within, zb_s, M_within, zb_s, M_within, zb_s, M_within, zb_s]
  cases decide (¬ x3 < (-1 : Int32) ∧ ¬ (7 : Int32) < x3) with
  | false => rfl
  | true =>
    rw [if_neg bi_t0]
    cases decide (¬ x4 < 0 ∧ ¬ (7 : Int32) < x4) with
    | false => rfl
    | true =>
      rw [if_neg bi_t0]
      cases decide (¬ x5 < 0 ∧ ¬ (15 : Int32) < x5) with
      | false => rfl
      | true =>
        rw [if_neg bi_t0]
        cases decide (¬ x6 < 0 ∧ ¬ (1000000000 : Int32) < x6) with
        | false => rfl
        | true => rfl
theorem P_art (x1 : Int64) (x3 x4 x5 x6 : Int32) (σ : zS) : fn_P_artefact x1 x3 x4 x5 x6 σ = if zgood x3 x4 x5 x6 = true then zb (fn_A_add x1 x3 x4 x5 x6 σ) (fun r s => some (r, s)) else some (-1, σ) := by
  have h19 : ∀ y0 : Bool, fn_P_artefact_19 x1 x3 x4 x5 x6 (bi y0) σ = if (y0 && (decide (¬ x4 < 0 ∧ ¬ (7 : Int32) < x4) && (decide (¬ x5 < 0 ∧ ¬ (15 : Int32) < x5) && decide (¬ x6 < 0 ∧ ¬ (1000000000 : Int32) < x6)))) = true then zb (fn_A_add x1 x3 x4 x5 x6 σ) (fun r s => some (r, s)) else some (-1, σ) := by
    intro y0
    unfold fn_P_artefact_19
    rw [P_isUpTo, zb_s, P_isUpTo, zb_s, P_isUpTo, zb_s]
    cases y0 with
    | false => rfl
    | true =>
      rw [if_neg bi_t0]
      cases decide (¬ x4 < 0 ∧ ¬ (7 : Int32) < x4) with
      | false => rfl
      | true =>
        rw [if_neg bi_t0]
        cases decide (¬ x5 < 0 ∧ ¬ (15 : Int32) < x5) with
        | false => rfl
        | true =>
          rw [if_neg bi_t0]
          cases decide (¬ x6 < 0 ∧ ¬ (1000000000 : Int32) < x6) with
          | false => rfl
          | true => rfl
  unfold fn_P_artefact fn_P_artefact_14 zgood
  rw [P_isUpTo, zb_s]
  have e1 := h19 true
  have e0 := h19 false
  by_cases h3 : x3 = -1
  · rw [if_pos h3, show decide (¬ x3 < (-1 : Int32) ∧ ¬ (7 : Int32) < x3) = true from decide_eq_true ((lt_m1 x3).mpr (Or.inl h3))]
    exact e1
  · rw [if_neg h3]
    by_cases h4 : ¬ x3 < 0 ∧ ¬ (7 : Int32) < x3
    · rw [decide_eq_true h4, if_neg bi_t0, show decide (¬ x3 < (-1 : Int32) ∧ ¬ (7 : Int32) < x3) = true from decide_eq_true ((lt_m1 x3).mpr (Or.inr h4))]
      exact e1
    · rw [decide_eq_false h4, if_pos bi_f0, show decide (¬ x3 < (-1 : Int32) ∧ ¬ (7 : Int32) < x3) = false from decide_eq_false (fun q => ((lt_m1 x3).mp q).elim h3 h4)]
      exact e0
/-- promise 4 -/
theorem ok_artefact {σ τ : zS} (h : zRel σ τ) (x1 : Int64) (x3 x4 x5 x6 : Int32) : zOK (fn_P_artefact x1 x3 x4 x5 x6 σ) (fn_M_artefact x1 x3 x4 x5 x6 τ) := by
  obtain ⟨hI, hR⟩ := id h
  obtain ⟨r1, r2, r3, r4, r5, r6, r7, r8, r9, r10, r11, r12, r13, r14, r15, r16, r17, r18, r19, r20, r21, r22, r23, r24⟩ := id hR
  obtain ⟨⟨i1, i2, i3, i4, i5, i6, i7, i8⟩, I2, I3, I4, I5, I6, I7⟩ := id hI
  have e1 : τ.1 701 0 = nI (za (zc τ)) := i3
  have e2 : σ.1 220 0 = nI (za (zc τ)) := r2.trans i3
  rw [P_art, M_art]
  unfold fn_M_artefact_48
  cases hg : zgood x3 x4 x5 x6 with
  | false =>
    rw [if_neg (by decide : ¬ false = true), if_pos bi_f0]
    by_cases hf : τ.1 701 0 = (32 : Int32)
    · rw [if_pos hf]; exact zOK.same h rfl rfl
    · rw [if_neg hf]; exact zOK.same h rfl rfl
  | true =>
    rw [if_pos rfl, if_neg bi_t0]
    unfold fn_A_add
    generalize hn : za (zc τ) = n at *
    rw [e1, e2]
    by_cases hf : n = 32
    · subst hf
      have h24 : ¬ nI 32 < (32 : Int32) := by decide
      have h24' : nI 32 = (32 : Int32) := rfl
      rw [if_neg h24, if_pos h24', zb_s]
      exact zOK.same h rfl rfl
    · have hn32 : n < 32 := by omega
      have h24 : nI n < (32 : Int32) := (nIlt (b := 32) (by omega) (by omega)).mpr hn32
      have h24' : ¬ nI n = (32 : Int32) := fun e => hf ((nIeq (b := 32) (by omega) (by omega)).mp e)
      rw [if_pos h24, if_neg h24']
      simp only [zL_1, zI_2, zF_2, zI_s, zI_n, zF_s, zF_n, zL_s, zL_n, ne_eq, Nat.reduceEqDiff, not_false_eq_true, zst_e, zb_s, e1, e2, nIc (show n ≤ 5000 by omega), zgd_t (zin_n hn32 (show (32 : Nat) ≤ 5000 by omega)), nI_1, nI_pred]
      generalize hs : zF (zI (zI (zI (zI (zL σ 7 n x1) 8 n x3) 9 n x4) 10 n x5) 11 n x6) 220 (nI (n + 1)) = σ1
      have s16 : σ1.1 16 = σ.1 16 := by rw [← hs]; rfl
      have s18 : σ1.1 18 = σ.1 18 := by rw [← hs]; rfl
      have s17 : σ1.2 17 = σ.2 17 := by rw [← hs]; rfl
      have s7 : σ1.2 7 n = x1 := by rw [← hs]; exact updL_s
      have s220 : σ1.1 220 0 = nI (n + 1) := by rw [← hs]; rfl
      obtain ⟨g', hm1, -, hm2⟩ := meet_all (σ := σ1) (a := n) (cn := nc (zc τ)) hn32 (fun i hi => ⟨by rw [s16, r15]; exact (I2 i hi).2.2.1, (I2 i hi).2.2.2.1⟩) s220 (n + 1) 100 0 (σ1.1 18) (by omega) (by omega)
      rw [zG_self] at hm1
      have hmm : fn_A_meetMissing (nI n) σ1 = some ((), zG σ1 g') := hm1
      rw [hmm, zb_s, zb_s]
      subst hs
      simp only [zgood, Bool.and_eq_true, decide_eq_true_eq] at hg
      obtain ⟨hg3, hg4, hg5, hg6⟩ := hg
      obtain ⟨b4, hb4, rfl⟩ := nIto (b := 7) (by omega) hg4
      obtain ⟨b5, hb5, rfl⟩ := nIto (b := 15) (by omega) hg5
      have hz : za (zc (zF (zI (zI (zI (zI (zL τ 35 n x1) 38 n x3) 39 n (nI b4)) 40 n (nI b5)) 41 n x6) 701 (nI (n + 1)))) = n + 1 := nIc (by omega)
      refine ⟨nI n, _, _, rfl, rfl, ?_, ?_⟩
      · refine ⟨⟨i1, i2, by rw [hz]; rfl, by rw [hz]; omega, i5, i6, i7, i8⟩, fun i hi => ⟨(I2 i hi).1, (I2 i hi).2.1, (I2 i hi).2.2.1, (I2 i hi).2.2.2.1, fun q => (I2 i hi).2.2.2.2 ?_⟩, I3, fun i hi => ⟨?_, ?_, ?_⟩, I5, I6, I7⟩
        · rw [hz] at q
          rw [hn]
          omega
        · exact upd_all (P := fun v => v = -1 ∨ ∃ b : Nat, b ≤ 7 ∧ v = nI b) (fun s hs => (I4 s hs).1) (((lt_m1 x3).mp hg3).imp id (fun q => nIto (b := 7) (by omega) q)) i hi
        · exact upd_all (P := fun v => ∃ b : Nat, b ≤ 7 ∧ v = nI b) (fun s hs => (I4 s hs).2.1) ⟨b4, hb4, rfl⟩ i hi
        · exact upd_all (P := fun v => ∃ b : Nat, b ≤ 15 ∧ v = nI b) (fun s hs => (I4 s hs).2.2) ⟨b5, hb5, rfl⟩ i hi
      · refine ⟨r1, rfl, r3, r4, r5, r6, r7, ?_, ?_, ?_, ?_, ?_, r13, r14, r15, r16, r17, r18, r19, r20, r21, r22, r23, ?_⟩
        · show vp_updL (σ.2 7) n x1 = vp_updL (τ.2 35) n x1
          rw [show σ.2 7 = τ.2 35 from r8]
        · show upd (σ.1 8) n x3 = upd (τ.1 38) n x3
          rw [show σ.1 8 = τ.1 38 from r9]
        · show upd (σ.1 9) n (nI b4) = upd (τ.1 39) n (nI b4)
          rw [show σ.1 9 = τ.1 39 from r10]
        · show upd (σ.1 10) n (nI b5) = upd (τ.1 40) n (nI b5)
          rw [show σ.1 10 = τ.1 40 from r11]
        · show upd (σ.1 11) n x6 = upd (τ.1 41) n x6
          rw [show σ.1 11 = τ.1 41 from r12]
        · intro i k hi hk
          rw [hz] at hi
          have hk : k < nc (zc τ) i := hk
          have hin : i < n := by
            rcases Nat.lt_or_ge i n with q | q
            · exact q
            · have := ((I2 i (by omega)).2.2.2.2 (by omega)).2
              omega
          show g' (6 * i + k) = oI (mt (zc (zF (zI (zI (zI (zI (zL τ 35 n x1) 38 n x3) 39 n (nI b4)) 40 n (nI b5)) 41 n x6) 701 (nI (n + 1)))) (τ.2 36 (6 * i + k)))
          rw [hm2 i k (by omega) hi hk, s7, s17, s18, show σ.2 17 = τ.2 36 from r16, show σ.1 18 (6 * i + k) = oI (mt (zc τ) (τ.2 36 (6 * i + k))) from r24 i k hin hk]
          generalize τ.2 36 (6 * i + k) = v
          have hmt : mt (zc (zF (zI (zI (zI (zI (zL τ 35 n x1) 38 n x3) 39 n (nI b4)) 40 n (nI b5)) 41 n x6) 701 (nI (n + 1)))) v = match mt (zc τ) v with | some j => some j | none => bif decide (x1 = v) then some n else none := by
            unfold mt
            rw [hz, hn, zfst_last]
            have hcg : zfst (fun i => decide ((zc (zF (zI (zI (zI (zI (zL τ 35 n x1) 38 n x3) 39 n (nI b4)) 40 n (nI b5)) 41 n x6) 701 (nI (n + 1)))).2 35 i = v)) n 0 = zfst (fun i => decide ((zc τ).2 35 i = v)) n 0 := zfst_congr (fun j _ hj => by
              show decide (vp_updL (τ.2 35) n x1 j = v) = decide (τ.2 35 j = v)
              rw [updL_n (by omega)])
            rw [hcg]
            have hl : decide ((zc (zF (zI (zI (zI (zI (zL τ 35 n x1) 38 n x3) 39 n (nI b4)) 40 n (nI b5)) 41 n x6) 701 (nI (n + 1)))).2 35 (0 + n) = v) = decide (x1 = v) := by
              show decide (vp_updL (τ.2 35) n x1 (0 + n) = v) = _
              rw [Nat.zero_add, updL_s]
            rw [hl, Nat.zero_add]
          rw [hmt]
          cases hmv : mt (zc τ) v with
          | some j =>
            have hj : j < n := by
              have := zfst_in hmv
              omega
            show (if v = x1 ∧ nI j = -1 then nI n else nI j) = nI j
            rw [if_neg (fun z => nIm1 (by omega) z.2)]
          | none =>
            show (if v = x1 ∧ (-1 : Int32) = -1 then nI n else -1) = oI (bif decide (x1 = v) then some n else none)
            by_cases hv : v = x1
            · rw [if_pos ⟨hv, rfl⟩, decide_eq_true hv.symm]; rfl
            · rw [if_neg (fun z => hv z.1), decide_eq_false (fun q => hv q.symm)]; rfl
