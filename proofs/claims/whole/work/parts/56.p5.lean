theorem RC_w {σ σ' T : zS} (hR : zRC σ T) (hf : FR_w σ σ') : zRC σ' T := by
  obtain ⟨r1, r2, r3, r4, r5, r6, r7, r8, r9, r10, r11, r12, r13, r14, r15, r16, r17, r18, r19, r20, r21, r22, r23, r24⟩ := id hR
  exact ⟨by rw [hf.1 120 (by decide) (by decide) (by decide)]; exact r1, by rw [hf.1 220 (by decide) (by decide) (by decide)]; exact r2, by rw [hf.1 520 (by decide) (by decide) (by decide)]; exact r3, by rw [hf.2]; exact r4, by rw [hf.1 3 (by decide) (by decide) (by decide)]; exact r5, by rw [hf.1 4 (by decide) (by decide) (by decide)]; exact r6, by rw [hf.1 5 (by decide) (by decide) (by decide)]; exact r7, by rw [hf.2]; exact r8, by rw [hf.1 8 (by decide) (by decide) (by decide)]; exact r9, by rw [hf.1 9 (by decide) (by decide) (by decide)]; exact r10, by rw [hf.1 10 (by decide) (by decide) (by decide)]; exact r11, by rw [hf.1 11 (by decide) (by decide) (by decide)]; exact r12, by rw [hf.1 13 (by decide) (by decide) (by decide)]; exact r13, by rw [hf.2]; exact r14, by rw [hf.1 16 (by decide) (by decide) (by decide)]; exact r15, by rw [hf.2]; exact r16, by rw [hf.1 19 (by decide) (by decide) (by decide)]; exact r17, by rw [hf.2]; exact r18, by rw [hf.1 22 (by decide) (by decide) (by decide)]; exact r19, by rw [hf.1 23 (by decide) (by decide) (by decide)]; exact r20, by rw [hf.1 106 (by decide) (by decide) (by decide)]; exact r21, by rw [hf.1 580 (by decide) (by decide) (by decide)]; exact r22, by rw [hf.1 25 (by decide) (by decide) (by decide)]; exact r23, by rw [hf.1 18 (by decide) (by decide) (by decide)]; exact r24⟩
theorem RC_c {σ σ' T : zS} (hR : zRC σ T) (hf : FR_c σ σ') : zRC σ' T := by
  obtain ⟨r1, r2, r3, r4, r5, r6, r7, r8, r9, r10, r11, r12, r13, r14, r15, r16, r17, r18, r19, r20, r21, r22, r23, r24⟩ := id hR
  exact ⟨by rw [hf.1 120 (by decide) (by decide) (by decide)]; exact r1, by rw [hf.1 220 (by decide) (by decide) (by decide)]; exact r2, by rw [hf.1 520 (by decide) (by decide) (by decide)]; exact r3, by rw [hf.2]; exact r4, by rw [hf.1 3 (by decide) (by decide) (by decide)]; exact r5, by rw [hf.1 4 (by decide) (by decide) (by decide)]; exact r6, by rw [hf.1 5 (by decide) (by decide) (by decide)]; exact r7, by rw [hf.2]; exact r8, by rw [hf.1 8 (by decide) (by decide) (by decide)]; exact r9, by rw [hf.1 9 (by decide) (by decide) (by decide)]; exact r10, by rw [hf.1 10 (by decide) (by decide) (by decide)]; exact r11, by rw [hf.1 11 (by decide) (by decide) (by decide)]; exact r12, by rw [hf.1 13 (by decide) (by decide) (by decide)]; exact r13, by rw [hf.2]; exact r14, by rw [hf.1 16 (by decide) (by decide) (by decide)]; exact r15, by rw [hf.2]; exact r16, by rw [hf.1 19 (by decide) (by decide) (by decide)]; exact r17, by rw [hf.2]; exact r18, by rw [hf.1 22 (by decide) (by decide) (by decide)]; exact r19, by rw [hf.1 23 (by decide) (by decide) (by decide)]; exact r20, by rw [hf.1 106 (by decide) (by decide) (by decide)]; exact r21, by rw [hf.1 580 (by decide) (by decide) (by decide)]; exact r22, by rw [hf.1 25 (by decide) (by decide) (by decide)]; exact r23, by rw [hf.1 18 (by decide) (by decide) (by decide)]; exact r24⟩
/-! the reference's closure -/
def ML (τ : zS) (o : List Nat) : Prop := τ.1 721 0 = nI o.length ∧ ∀ k, k < o.length → τ.1 48 k = nI (o.getD k 0)
def FM (τ τ' : zS) : Prop := (∀ j, j ≠ 721 → j ≠ 48 → τ'.1 j = τ.1 j) ∧ τ'.2 = τ.2
theorem FM.rf (τ : zS) : FM τ τ := ⟨fun _ _ _ => rfl, rfl⟩
theorem FM.tr {a b c : zS} (h1 : FM a b) (h2 : FM b c) : FM a c := ⟨fun j x y => (h2.1 j x y).trans (h1.1 j x y), h2.2.trans h1.2⟩
theorem zc_of {τ τ' : zS} (h : ∀ j, zsc j = false → τ'.1 j = τ.1 j) (h2 : τ'.2 = τ.2) : zc τ' = zc τ := by
  unfold zc
  have : (fun k => bif zsc k then (fun _ => 0) else τ'.1 k) = (fun k => bif zsc k then (fun _ => (0 : Int32)) else τ.1 k) := by
    funext k
    cases hk : zsc k with
    | true => rfl
    | false => exact h k hk
  rw [this, h2]
theorem zc_fm {τ τ' : zS} (h : FM τ τ') : zc τ' = zc τ := zc_of (fun j hj => h.1 j (fun e => by subst e; cases hj) (fun e => by subst e; cases hj)) h.2
theorem any_mem (o : List Nat) (x : Nat) : zany (fun k => decide (o.getD k 0 = x)) o.length 0 = decide (x ∈ o) := by
  rw [Bool.eq_iff_iff, zany_iff, decide_eq_true_iff]
  constructor
  · rintro ⟨j, -, hj, hp⟩
    have hj : j < o.length := by omega
    have hp := of_decide_eq_true hp
    have : o.getD j 0 = o[j] := by simp [hj]
    rw [← hp, this]
    exact List.getElem_mem hj
  · intro h
    obtain ⟨j, hj, e⟩ := List.mem_iff_getElem.mp h
    refine ⟨j, Nat.zero_le _, by omega, decide_eq_true ?_⟩
    rw [← e]
    simp [hj]
theorem M_come {τ : zS} {o : List Nat} {x : Nat} (hc : ML τ o) (hg : zgl 32 o) (hx : x < 32) : ∃ τ', fn_M_come (nI x) τ = some ((), τ') ∧ ML τ' (zcome o x) ∧ FM τ τ' := by
  have hl := zgl_len hg
  have key := zl_fst (fun n k => fn_M_come_2 n (nI x) (nI k) τ) o.length (fun k => decide (o.getD k 0 = x)) (fun _ => some ((), τ)) (zgd (zin (nI o.length) 32) (some ((), zF (zI τ 48 o.length (nI x)) 721 (nI (o.length + 1))))) (fun n k hk => by
    show fn_M_come_2 (n + 1) (nI x) (nI k) τ = _
    rw [fn_M_come_2, hc.1]
    by_cases hkc : k < o.length
    · rw [if_pos ((nIk hk (by omega)).mpr hkc), if_pos hkc, zgd_t (zin_n (show k < 32 by omega) (by omega)), nIc (show k ≤ 5000 by omega), hc.2 k hkc, nI_1]
      have hlt := getD_lt hg hkc
      by_cases hp : o.getD k 0 = x
      · rw [if_pos ((nIeq (by omega) (by omega)).mpr hp), decide_eq_true hp]; rfl
      · rw [if_neg (fun e => hp ((nIeq (by omega) (by omega)).mp e)), decide_eq_false hp]; rfl
    · rw [if_neg (fun q => hkc ((nIk hk (by omega)).mp q)), if_neg hkc, zst_e, zst_e, zI_n _ _ _ (by decide), hc.1, nIc (by omega), nI_1]) o.length 100 0 (by omega) (by omega)
  have key : fn_M_come (nI x) τ = _ := key
  rw [zany_fst (P := fun k => decide (o.getD k 0 = x)) (some ((), τ)) (zgd (zin (nI o.length) 32) (some ((), zF (zI τ 48 o.length (nI x)) 721 (nI (o.length + 1))))) o.length 0, any_mem] at key
  unfold zcome
  by_cases hm : x ∈ o
  · rw [decide_eq_true hm] at key
    rw [if_pos hm]
    exact ⟨τ, key, hc, FM.rf τ⟩
  · rw [decide_eq_false hm] at key
    rw [if_neg hm]
    have hl2 := zgl_len (zgl_app hg hx hm)
    rw [List.length_append, List.length_singleton] at hl2
    have key : fn_M_come (nI x) τ = zgd (zin (nI o.length) 32) (some ((), zF (zI τ 48 o.length (nI x)) 721 (nI (o.length + 1)))) := key
    rw [zgd_t (zin_n (show o.length < 32 by omega) (by omega))] at key
    refine ⟨_, key, ⟨?_, fun k hk => ?_⟩, fun j a b => ?_, rfl⟩
    · show nI (o.length + 1) = _
      rw [List.length_append, List.length_singleton]
    · show upd (τ.1 48) o.length (nI x) k = _
      rw [List.length_append, List.length_singleton] at hk
      by_cases e : k = o.length
      · subst e; rw [upd_s, getD_last]
      · rw [upd_n e, getD_pre (by omega)]; exact hc.2 k (by omega)
    · rw [zF_n _ _ a, zI_n _ _ _ b]
theorem M_row {T : zS} (hI : zIv T) {i q to : Nat} (hi : i < za T) (k12 : Int32 → zS → Option (Unit × zS)) (k28 : Int32 → Int32 → zS → Option (Unit × zS)) : ∀ (m n k : Nat) (τ : zS) (o : List Nat), k + m = nc T i → m < n → ML τ o → zgl (za T) o → zc τ = T → q < o.length → o.getD q 0 = i →
    ∃ τ', fn_M_goAlong_37 k12 k28 n (nI to) (nI q) (nI k) τ = k28 (nI to) (nI (q + 1)) τ' ∧ ML τ' (zrow T i m k o) ∧ FM τ τ' := by
  have ha : za T ≤ 32 := hI.1.2.2.2.1
  intro m
  induction m with
  | zero =>
    intro n k τ o hk hn hc hg hT hq hgi
    obtain ⟨n, rfl⟩ : ∃ n', n = n' + 1 := ⟨n - 1, by omega⟩
    have hl := zgl_len hg
    have h6 := (hI.2.1 i (by omega)).2.2.2.1
    have e44 : τ.1 44 i = nI (nc T i) := by rw [← hT]; exact (hT ▸ hI).2.1 i (by rw [hT] at *; omega) |>.2.2.1
    refine ⟨τ, ?_, hc, FM.rf τ⟩
    rw [fn_M_goAlong_37, zgd_t (zin_n (show q < 32 by omega) (by omega)), nIc (show q ≤ 5000 by omega), hc.2 q hq, hgi, zgd_t (zin_n (show i < 32 by omega) (by omega)), nIc (show i ≤ 5000 by omega), e44, if_neg (fun z => by have := (nIk (show k ≤ nc T i by omega) (by omega)).mp z; omega), nI_1]
  | succ m ih =>
    intro n k τ o hk hn hc hg hT hq hgi
    obtain ⟨n, rfl⟩ : ∃ n', n = n' + 1 := ⟨n - 1, by omega⟩
    have hl := zgl_len hg
    have h6 := (hI.2.1 i (by omega)).2.2.2.1
    have e44 : τ.1 44 i = nI (nc T i) := by rw [← hT]; exact (hT ▸ hI).2.1 i (by rw [hT] at *; omega) |>.2.2.1
    have hIt : zIv (zc τ) := by rw [hT]; exact hI
    have hg32 : zgl 32 o := ⟨hg.1, fun x hx => Nat.lt_of_lt_of_le (hg.2 x hx) ha⟩
    have e36 : τ.2 36 = T.2 36 := by rw [← hT]; rfl
    rw [fn_M_goAlong_37, zgd_t (zin_n (show q < 32 by omega) (by omega)), nIc (show q ≤ 5000 by omega), hc.2 q hq, hgi, zgd_t (zin_n (show i < 32 by omega) (by omega)), nIc (show i ≤ 5000 by omega), e44, if_pos ((nIk (show k ≤ nc T i by omega) (by omega)).mpr (by omega)), zgd_t (zin_n (show q < 32 by omega) (by omega)), nI6, zgd_t (zin_n (show 6 * i + k < 192 by omega) (by omega)), nIc (show 6 * i + k ≤ 5000 by omega), M_meets hIt, zb_s, hT, e36, nI_1]
    unfold zrow
    cases hm : mt T (T.2 36 (6 * i + k)) with
    | none =>
      rw [if_pos (show oI none = -1 from rfl)]
      exact ih n (k + 1) τ o (by omega) (by omega) hc hg hT hq hgi
    | some x =>
      have hx := mt_lt hm
      have hne : ¬ oI (some x) = -1 := nIm1 (by omega)
      rw [if_neg hne]
      obtain ⟨τ1, h1, h2, h3⟩ := M_come hc hg32 (x := x) (by omega)
      have h1 : fn_M_come (oI (some x)) τ = some ((), τ1) := h1
      rw [h1, zb_s]
      obtain ⟨t, ht⟩ := zadd_pre o (some x)
      have ht : zcome o x = o ++ t := ht
      obtain ⟨τ2, h4, h5, h7⟩ := ih n (k + 1) τ1 (zcome o x) (by omega) (by omega) h2 (zcome_gl hg hx) ((zc_fm h3).trans hT) (by rw [ht, List.length_append]; omega) (by rw [ht, getD_pre hq]; exact hgi)
      exact ⟨τ2, h4, h5, h3.tr h7⟩
theorem zbfs_done {T : zS} {f q : Nat} {o : List Nat} (h : ¬ q < o.length) : zbfs T f q o = o := by
  cases f with
  | zero => rfl
  | succ f => unfold zbfs; rw [if_neg h]
theorem M_go {T : zS} (hI : zIv T) : ∀ (f n12 n28 q to : Nat) (τ : zS) (o : List Nat), q < to → to ≤ o.length → 33 ≤ q + f → to - q < n28 → 33 - to < n12 → ML τ o → zgl (za T) o → zc τ = T →
    ∃ τ', fn_M_goAlong_28 (fn_M_goAlong_12 n12) n28 (nI to) (nI q) τ = some ((), τ') ∧ ML τ' (zbfs T f q o) ∧ FM τ τ' := by
  have ha : za T ≤ 32 := hI.1.2.2.2.1
  intro f
  induction f with
  | zero =>
    intro n12 n28 q to τ o hq ht hf h28 h12 hc hg hT
    have hl := zgl_len hg
    omega
  | succ f ih =>
    intro n12 n28 q to τ o hq ht hf h28 h12 hc hg hT
    have hl := zgl_len hg
    obtain ⟨n28, rfl⟩ : ∃ n', n28 = n' + 1 := ⟨n28 - 1, by omega⟩
    have hqo : q < o.length := by omega
    have hi := getD_lt hg hqo
    have h6 := (hI.2.1 (o.getD q 0) (by omega)).2.2.2.1
    obtain ⟨τ1, h1, h2, h3⟩ := M_row hI (q := q) (to := to) hi (fn_M_goAlong_12 n12) (fn_M_goAlong_28 (fn_M_goAlong_12 n12) n28) (nc T (o.getD q 0)) 100 0 τ o (by omega) (by omega) hc hg hT hqo rfl
    have hg1 := zrow_gl (T := T) (i := o.getD q 0) (nc T (o.getD q 0)) 0 o hg
    obtain ⟨t, hpre⟩ := zrow_pre (T := T) (i := o.getD q 0) (nc T (o.getD q 0)) 0 o
    have hT1 : zc τ1 = T := (zc_fm h3).trans hT
    rw [fn_M_goAlong_28, if_pos ((nIlt (by omega) (by omega)).mpr hq)]
    unfold zbfs
    rw [if_pos hqo]
    generalize hgen : zrow T (o.getD q 0) (nc T (o.getD q 0)) 0 o = o1 at *
    have hlen : o.length ≤ o1.length := by rw [hpre, List.length_append]; omega
    have hl1 := zgl_len hg1
    by_cases hq1 : q + 1 < to
    · obtain ⟨τ2, h4, h5, h7⟩ := ih n12 n28 (q + 1) to τ1 o1 hq1 (by omega) (by omega) (by omega) h12 h2 hg1 hT1
      exact ⟨τ2, h1.trans h4, h5, h3.tr h7⟩
    · have hto : to = q + 1 := by omega
      obtain ⟨n28, rfl⟩ : ∃ n', n28 = n' + 1 := ⟨n28 - 1, by omega⟩
      obtain ⟨n12, rfl⟩ : ∃ n', n12 = n' + 1 := ⟨n12 - 1, by omega⟩
      have hstep : fn_M_goAlong_28 (fn_M_goAlong_12 (n12 + 1)) (n28 + 1) (nI to) (nI (q + 1)) τ1 = fn_M_goAlong_12 (n12 + 1) (nI to) τ1 := by
        rw [fn_M_goAlong_28, if_neg (fun z => by have := (nIlt (show q + 1 ≤ 5000 by omega) (show to ≤ 5000 by omega)).mp z; omega)]
      by_cases hlo : to < o1.length
      · have hs2 : fn_M_goAlong_12 (n12 + 1) (nI to) τ1 = fn_M_goAlong_28 (fn_M_goAlong_12 n12) 100 (nI o1.length) (nI to) τ1 := by
          rw [fn_M_goAlong_12, h2.1, if_pos ((nIlt (by omega) (by omega)).mpr hlo)]
        obtain ⟨τ2, h4, h5, h7⟩ := ih n12 100 to o1.length τ1 o1 hlo (Nat.le_refl _) (by omega) (by omega) (by omega) h2 hg1 hT1
        rw [hto] at h5
        exact ⟨τ2, h1.trans (hstep.trans (hs2.trans h4)), h5, h3.tr h7⟩
      · have hs2 : fn_M_goAlong_12 (n12 + 1) (nI to) τ1 = some ((), τ1) := by
          rw [fn_M_goAlong_12, h2.1, if_neg (fun z => hlo ((nIlt (by omega) (by omega)).mp z))]
        refine ⟨τ1, h1.trans (hstep.trans hs2), ?_, h3⟩
        rw [zbfs_done (by omega)]
        exact h2
theorem M_goAlong {τ : zS} (hI : zIv (zc τ)) {i : Nat} (hi : i < za (zc τ)) : ∃ τ', fn_M_goAlong (nI i) τ = some ((), τ') ∧ ML τ' (clo (zc τ) i) ∧ FM τ τ' := by
  have ha : za (zc τ) ≤ 32 := hI.1.2.2.2.1
  unfold fn_M_goAlong
  rw [zst_e]
  have hf : FM τ (zF τ 721 0) := ⟨fun j a b => by rw [zF_n _ _ a], rfl⟩
  have hc0 : ML (zF τ 721 0) [] := ⟨rfl, fun k hk => absurd hk (by simp)⟩
  obtain ⟨τ1, h1, h2, h3⟩ := M_come hc0 ⟨by simp, fun x hx => by simp at hx⟩ (x := i) (by omega)
  rw [h1, zb_s]
  have h2 : ML τ1 [i] := h2
  have hT1 : zc τ1 = zc τ := (zc_fm h3).trans (zc_fm hf)
  obtain ⟨τ2, h4, h5, h6⟩ := M_go hI 33 99 100 0 1 τ1 [i] (by omega) (by simp) (by omega) (by omega) (by omega) h2 (zgl_one hi) hT1
  refine ⟨τ2, ?_, h5, (hf.tr h3).tr h6⟩
  show fn_M_goAlong_12 (99 + 1) (nI 0) τ1 = _
  rw [fn_M_goAlong_12, h2.1, if_pos ((nIlt (by omega) (by simp)).mpr (by simp))]
  exact h4
/-- promise 12: what is kept -/
def zH (T : zS) (c : Nat) (g : Nat → Int32) : zS := (zU (zU T.1 723 (fun _ => nI c)) 50 g, T.2)
theorem M_keep {c : Nat} (hc : c ≤ 32) : ∀ (m n k : Nat) (τ : zS), k + m = c → m < n → τ.1 721 0 = nI c →
    ∃ τ', fn_M_closure_25 n (nI k) τ = some (τ.1 723 0, τ') ∧ (∀ j, j ≠ 50 → τ'.1 j = τ.1 j) ∧ τ'.2 = τ.2 ∧ (∀ j, j < k → τ'.1 50 j = τ.1 50 j) ∧ ∀ j, k ≤ j → j < c → τ'.1 50 j = τ.1 48 j := by
  intro m
  induction m with
  | zero =>
    intro n k τ hk hn h1
    obtain ⟨n, rfl⟩ : ∃ n', n = n' + 1 := ⟨n - 1, by omega⟩
    refine ⟨τ, ?_, fun _ _ => rfl, rfl, fun _ _ => rfl, fun j a b => absurd b (by omega)⟩
    rw [fn_M_closure_25, h1, if_neg (fun z => by have := (nIlt (show k ≤ 5000 by omega) (show c ≤ 5000 by omega)).mp z; omega)]
  | succ m ih =>
    intro n k τ hk hn h1
    obtain ⟨n, rfl⟩ : ∃ n', n = n' + 1 := ⟨n - 1, by omega⟩
    obtain ⟨τ1, h2, h3, h4, h5, h6⟩ := ih n (k + 1) (zI τ 50 k (τ.1 48 k)) (by omega) (by omega) (by rw [zI_n _ _ _ (by decide)]; exact h1)
    refine ⟨τ1, ?_, fun j a => by rw [h3 j a, zI_n _ _ _ a], h4, fun j hj => ?_, fun j a b => ?_⟩
    · rw [fn_M_closure_25, h1, if_pos ((nIlt (by omega) (by omega)).mpr (by omega)), zgd_t (zin_n (show k < 32 by omega) (by omega)), zgd_t (zin_n (show k < 32 by omega) (by omega)), zst_e, nIc (show k ≤ 5000 by omega), nI_1]
      rw [zI_n _ _ _ (by decide)] at h2
      exact h2
    · rw [h5 j (by omega), zI_s, upd_n (by omega)]
    · by_cases e : j = k
      · subst e; rw [h5 j (by omega), zI_s, upd_s]
      · rw [h6 j (by omega) b, zI_n _ _ _ (by decide)]
theorem zH_of {τ τ' : zS} {c : Nat} (h : ∀ j, zsc j = false → j ≠ 723 → j ≠ 50 → τ'.1 j = τ.1 j) (h1 : τ'.1 723 = fun _ => nI c) (h2 : τ'.2 = τ.2) : zc τ' = zH (zc τ) c (τ'.1 50) := by
  unfold zH
  have : (zc τ').1 = zU (zU (zc τ).1 723 (fun _ => nI c)) 50 (τ'.1 50) := by
    funext k
    by_cases e1 : k = 50
    · subst e1; rw [zU_s]; rfl
    · rw [zU_n _ _ e1]
      by_cases e2 : k = 723
      · subst e2; rw [zU_s]; exact h1
      · rw [zU_n _ _ e2]
        show (bif zsc k then (fun _ => 0) else τ'.1 k) = (bif zsc k then (fun _ => (0 : Int32)) else τ.1 k)
        cases hk : zsc k with
        | true => rfl
        | false => exact h k hk e2 e1
  show ((zc τ').1, (zc τ').2) = _
  rw [this, show (zc τ').2 = (zc τ).2 from h2]
theorem ok_closure {σ τ : zS} (h : zRel σ τ) (x1 : Int32) : zOK (fn_P_closure x1 σ) (fn_M_closure x1 τ) := by
  obtain ⟨hI, hR⟩ := id h
  obtain ⟨r1, r2, r3, r4, r5, r6, r7, r8, r9, r10, r11, r12, r13, r14, r15, r16, r17, r18, r19, r20, r21, r22, r23, r24⟩ := id hR
  obtain ⟨⟨i1, i2, i3, i4, i5, i6, i7, i8⟩, I2, I3, I4, I5, I6, I7⟩ := id hI
  unfold fn_P_closure fn_M_closure
  rw [A_has hI hR, zb_s, M_isArt hI, zb_s]
  by_cases hg : ∃ j : Nat, j < za (zc τ) ∧ x1 = nI j
  · rw [decide_eq_true hg, if_neg bi_t0, if_neg bi_t0]
    obtain ⟨i, hi, rfl⟩ := hg
    obtain ⟨σ1, hs1, hs2, hs3⟩ := Q_walk_l i4 (WK_l.of hI hR) hi
    obtain ⟨τ1, ht1, ht2, ht3⟩ := M_goAlong hI hi
    rw [hs1, zb_s, ht1, zb_s, zst_e]
    have hgl := clo_gl (T := zc τ) hi
    have hlen := zgl_len hgl
    generalize clo (zc τ) i = o at *
    obtain ⟨τ2, hk1, hk2, hk3, -, hk5⟩ := M_keep (c := o.length) (by omega) o.length 100 0 (zF τ1 723 (τ1.1 721 0)) (by omega) (by omega) (by rw [zF_n _ _ (by decide)]; exact ht2.1)
    have hk1 : fn_M_closure_25 100 0 (zF τ1 723 (τ1.1 721 0)) = _ := hk1
    rw [hk1]
    have h723 : (zF τ1 723 (τ1.1 721 0)).1 723 0 = nI o.length := ht2.1
    rw [h723, hs2.1]
    have hT : zc τ2 = zH (zc τ) o.length (τ2.1 50) := zH_of (fun j a b c => by
      rw [hk2 j c, zF_n _ _ b, ht3.1 j (fun e => by subst e; cases a) (fun e => by subst e; cases a)]) (by
      rw [hk2 723 (by decide), zF_s]
      funext z
      exact ht2.1) (hk3.trans ht3.2)
    have hz : zk (zH (zc τ) o.length (τ2.1 50)) = o.length := nIc (by omega)
    refine ⟨nI o.length, σ1, τ2, rfl, rfl, ?_, ?_⟩
    · rw [hT]
      exact ⟨⟨i1, i2, i3, i4, i5, i6, by rw [hz]; rfl, by rw [hz]; omega⟩, I2, I3, I4, I5, I6, I7⟩
    · rw [hT]
      have hf := hs3
      refine ⟨by rw [hf.1 120 (by decide) (by decide) (by decide)]; exact r1, by rw [hf.1 220 (by decide) (by decide) (by decide)]; exact r2, by rw [hf.1 520 (by decide) (by decide) (by decide)]; exact r3, by rw [hf.2]; exact r4, by rw [hf.1 3 (by decide) (by decide) (by decide)]; exact r5, by rw [hf.1 4 (by decide) (by decide) (by decide)]; exact r6, by rw [hf.1 5 (by decide) (by decide) (by decide)]; exact r7, by rw [hf.2]; exact r8, by rw [hf.1 8 (by decide) (by decide) (by decide)]; exact r9, by rw [hf.1 9 (by decide) (by decide) (by decide)]; exact r10, by rw [hf.1 10 (by decide) (by decide) (by decide)]; exact r11, by rw [hf.1 11 (by decide) (by decide) (by decide)]; exact r12, by rw [hf.1 13 (by decide) (by decide) (by decide)]; exact r13, by rw [hf.2]; exact r14, by rw [hf.1 16 (by decide) (by decide) (by decide)]; exact r15, by rw [hf.2]; exact r16, by rw [hf.1 19 (by decide) (by decide) (by decide)]; exact r17, by rw [hf.2]; exact r18, by rw [hf.1 22 (by decide) (by decide) (by decide)]; exact r19, by rw [hf.1 23 (by decide) (by decide) (by decide)]; exact r20, by rw [hf.1 106 (by decide) (by decide) (by decide)]; exact r21, hs2.1, ?_, by rw [hf.1 18 (by decide) (by decide) (by decide)]; exact r24⟩
      intro k hk
      rw [hz] at hk
      show σ1.1 25 k = τ2.1 50 k
      rw [hs2.2.1 k hk, hk5 k (by omega) hk, zF_n _ _ (by decide)]
      exact (ht2.2 k hk).symm
  · rw [decide_eq_false hg, if_pos bi_f0, if_pos bi_f0]
    exact zOK.same h rfl rfl
