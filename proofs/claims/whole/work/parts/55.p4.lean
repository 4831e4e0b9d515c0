/-! bits -/
theorem bt_1 (i : Nat) : bt 1 i = decide (i = 0) := by
  rcases Nat.lt_or_ge i 32 with h | h
  · exact (by decide +kernel : ∀ i, i < 32 → bt 1 i = decide (i = 0)) i h
  · rw [b_big h, decide_eq_false (by omega)]
theorem and1 (y : Int32) : (y &&& 1 = 0) ↔ bt y 0 = false := by
  constructor
  · intro h
    have h2 : bt (y &&& 1) 0 = false := by rw [h]; exact b_0 0
    rw [b_and, bt_1] at h2
    simpa using h2
  · intro h
    refine b_ext (fun i hi => ?_)
    rw [b_and, bt_1, b_0]
    by_cases e : i = 0
    · subst e; rw [h]; rfl
    · rw [decide_eq_false e, Bool.and_false]
theorem ush1 (v : Int32) {x : Nat} (hx : x < 32) : (zush v (nI x) &&& 1 = 0) ↔ bt v x = false := by
  rw [and1]
  unfold zush
  rw [b_ushr x hx v 0, Nat.add_zero]
theorem shr1 (v : Int32) {x : Nat} (hx : x < 32) : (zshr v (nI x) &&& 1 = 0) ↔ bt v x = false := by
  rw [and1]
  unfold zshr
  rw [b_sshr x hx v (by omega), if_pos (by omega), Nat.add_zero]
theorem bt_shl {x y : Nat} (hx : x < 32) (hy : y < 32) : bt (zshl 1 (nI x)) y = decide (x = y) := by
  unfold zshl
  rw [b_shl x hx 1 hy, bt_1]
  by_cases e : x = y
  · subst e; simp
  · rw [decide_eq_false e]
    by_cases h : x ≤ y
    · rw [decide_eq_true h, decide_eq_false (by omega)]; rfl
    · rw [decide_eq_false h]; rfl
theorem P_hasBit (v : Int32) {x : Nat} (hx : x < 32) (σ : zS) : fn_P_hasBit v (nI x) σ = some (bi (bt v x), σ) := by
  unfold fn_P_hasBit
  rw [if_neg (nIn0 (by omega))]
  cases hb : bt v x with
  | false => rw [if_pos ((ush1 v hx).mpr hb)]; rfl
  | true => rw [if_neg (fun q => by rw [(ush1 v hx).mp q] at hb; cases hb)]; rfl
/-! closures: rows of numbers, each once -/
def zcome (o : List Nat) (x : Nat) : List Nat := if x ∈ o then o else o ++ [x]
def zadd (o : List Nat) : Option Nat → List Nat
  | none => o
  | some x => zcome o x
def zrow (T : zS) (i : Nat) : Nat → Nat → List Nat → List Nat
  | 0, _, o => o
  | m + 1, k, o => zrow T i m (k + 1) (zadd o (mt T (T.2 36 (6 * i + k))))
def zbfs (T : zS) : Nat → Nat → List Nat → List Nat
  | 0, _, o => o
  | f + 1, q, o => if q < o.length then zbfs T f (q + 1) (zrow T (o.getD q 0) (nc T (o.getD q 0)) 0 o) else o
def clo (T : zS) (i : Nat) : List Nat := zbfs T 33 0 [i]
def zgl (c : Nat) (o : List Nat) : Prop := o.Nodup ∧ ∀ x ∈ o, x < c
theorem zgl_len : ∀ {c : Nat} {o : List Nat}, zgl c o → o.length ≤ c
  | 0, o, h => by
    cases o with
    | nil => exact Nat.le_refl _
    | cons x r => exact absurd (h.2 x List.mem_cons_self) (by omega)
  | c + 1, o, h => by
    by_cases hc : c ∈ o
    · have h1 : zgl c (o.erase c) := ⟨h.1.erase c, fun x hx => by
        have h2 := (List.Nodup.mem_erase_iff h.1).mp hx
        have h3 := h.2 x h2.2
        have h4 := h2.1
        omega⟩
      have h5 := zgl_len h1
      have h6 := List.length_erase_of_mem hc
      omega
    · have h1 : zgl c o := ⟨h.1, fun x hx => by
        have h3 := h.2 x hx
        have h4 : x ≠ c := fun e => hc (e ▸ hx)
        omega⟩
      have h5 := zgl_len h1
      omega
theorem zgl_app {c x : Nat} {o : List Nat} (h : zgl c o) (hx : x < c) (hn : x ∉ o) : zgl c (o ++ [x]) := by
  refine ⟨?_, fun y hy => ?_⟩
  · rw [List.nodup_append]
    refine ⟨h.1, by simp, fun a ha b hb => ?_⟩
    rw [List.mem_singleton] at hb
    subst hb
    exact fun e => hn (e ▸ ha)
  · rcases List.mem_append.mp hy with hy | hy
    · exact h.2 y hy
    · rw [List.mem_singleton.mp hy]; exact hx
theorem zcome_gl {c x : Nat} {o : List Nat} (h : zgl c o) (hx : x < c) : zgl c (zcome o x) := by
  unfold zcome
  by_cases hn : x ∈ o
  · rw [if_pos hn]; exact h
  · rw [if_neg hn]; exact zgl_app h hx hn
theorem zadd_gl {c : Nat} {o : List Nat} {x : Option Nat} (h : zgl c o) (hx : ∀ y, x = some y → y < c) : zgl c (zadd o x) := by
  cases x with
  | none => exact h
  | some y => exact zcome_gl h (hx y rfl)
theorem zadd_pre (o : List Nat) (x : Option Nat) : ∃ t, zadd o x = o ++ t := by
  cases x with
  | none => exact ⟨[], by simp [zadd]⟩
  | some y =>
    unfold zadd zcome
    by_cases hn : y ∈ o
    · exact ⟨[], by simp [hn]⟩
    · exact ⟨[y], by simp [hn]⟩
theorem mt_lt {T : zS} {d : Int64} {x : Nat} (h : mt T d = some x) : x < za T := by
  have := zfst_in h
  omega
theorem zrow_gl {T : zS} {i : Nat} : ∀ (m k : Nat) (o : List Nat), zgl (za T) o → zgl (za T) (zrow T i m k o)
  | 0, k, o, h => h
  | m + 1, k, o, h => zrow_gl m (k + 1) _ (zadd_gl h (fun y hy => mt_lt hy))
theorem zrow_pre {T : zS} {i : Nat} : ∀ (m k : Nat) (o : List Nat), ∃ t, zrow T i m k o = o ++ t
  | 0, k, o => ⟨[], by simp [zrow]⟩
  | m + 1, k, o => by
    obtain ⟨t1, h1⟩ := zadd_pre o (mt T (T.2 36 (6 * i + k)))
    obtain ⟨t2, h2⟩ := zrow_pre (T := T) (i := i) m (k + 1) (zadd o (mt T (T.2 36 (6 * i + k))))
    exact ⟨t1 ++ t2, by rw [zrow, h2, h1, List.append_assoc]⟩
theorem zbfs_gl {T : zS} : ∀ (f q : Nat) (o : List Nat), zgl (za T) o → zgl (za T) (zbfs T f q o)
  | 0, q, o, h => h
  | f + 1, q, o, h => by
    unfold zbfs
    by_cases hq : q < o.length
    · rw [if_pos hq]; exact zbfs_gl f (q + 1) _ (zrow_gl _ _ _ h)
    · rw [if_neg hq]; exact h
theorem zgl_one {c i : Nat} (h : i < c) : zgl c [i] := ⟨by simp, fun x hx => by rw [List.mem_singleton.mp hx]; exact h⟩
theorem clo_gl {T : zS} {i : Nat} (h : i < za T) : zgl (za T) (clo T i) := zbfs_gl 33 0 _ (zgl_one h)
theorem getD_lt {c : Nat} {o : List Nat} (h : zgl c o) {q : Nat} (hq : q < o.length) : o.getD q 0 < c := by
  have : o.getD q 0 = o[q] := by simp [hq]
  rw [this]
  exact h.2 _ (List.getElem_mem hq)
theorem getD_pre {o t : List Nat} {q : Nat} (hq : q < o.length) : (o ++ t).getD q 0 = o.getD q 0 := by
  simp [List.getD, List.getElem?_append_left hq]
theorem getD_last {o : List Nat} {x : Nat} : (o ++ [x]).getD o.length 0 = x := by simp

/-! the class's closure, instance w -/
def CL_w (σ : zS) (o : List Nat) : Prop := σ.1 620 0 = nI o.length ∧ (∀ k, k < o.length → σ.1 27 k = nI (o.getD k 0)) ∧ ∀ x, x < 32 → bt (σ.1 622 0) x = decide (x ∈ o)
def FR_w (σ σ' : zS) : Prop := (∀ j, j ≠ 620 → j ≠ 27 → j ≠ 622 → σ'.1 j = σ.1 j) ∧ σ'.2 = σ.2
theorem FR_w.rf (σ : zS) : FR_w σ σ := ⟨fun _ _ _ _ => rfl, rfl⟩
theorem FR_w.tr {a b c : zS} (h1 : FR_w a b) (h2 : FR_w b c) : FR_w a c := ⟨fun j x y z => (h2.1 j x y z).trans (h1.1 j x y z), h2.2.trans h1.2⟩
theorem Q_reach_w {σ : zS} {o : List Nat} (hc : CL_w σ o) (hg : zgl 32 o) (x : Option Nat) (hx : ∀ y, x = some y → y < 32) : ∃ σ', fn_Q_reach_w (oI x) σ = some ((), σ') ∧ CL_w σ' (zadd o x) ∧ FR_w σ σ' := by
  obtain ⟨h1, h2, h3⟩ := id hc
  unfold fn_Q_reach_w
  cases x with
  | none =>
    rw [if_pos (show oI none = -1 from rfl)]
    exact ⟨σ, rfl, hc, FR_w.rf σ⟩
  | some y =>
    have hy := hx y rfl
    show ∃ σ', (if nI y = -1 then some ((), σ) else _) = some ((), σ') ∧ _
    rw [if_neg (nIm1 (by omega))]
    show ∃ σ', zb (fn_P_hasBit (σ.1 622 0) (nI y) σ) _ = some ((), σ') ∧ _
    rw [P_hasBit _ hy, zb_s, h3 y hy]
    by_cases hm : y ∈ o
    · rw [decide_eq_true hm, if_neg bi_t0]
      refine ⟨σ, rfl, ?_, FR_w.rf σ⟩
      show CL_w σ (zcome o y)
      unfold zcome
      rw [if_pos hm]
      exact hc
    · rw [decide_eq_false hm, if_pos bi_f0, h1]
      have hg2 := zgl_app hg hy hm
      have hl := zgl_len hg2
      rw [List.length_append, List.length_singleton] at hl
      have hlt : nI o.length < (32 : Int32) := (nIlt (b := 32) (by omega) (by omega)).mpr (by omega)
      rw [if_pos hlt]
      simp only [zL_1, zI_2, zF_2, zI_s, zI_n, zF_s, zF_n, ne_eq, Nat.reduceEqDiff, not_false_eq_true, zst_e, h1, nIc (show o.length ≤ 5000 by omega), zgd_t (zin_n (show o.length < 32 by omega) (show (32 : Nat) ≤ 5000 by omega)), nI_1]
      refine ⟨_, rfl, ?_, fun j a b c => ?_, rfl⟩
      · show CL_w _ (zcome o y)
        unfold zcome
        rw [if_neg hm]
        refine ⟨?_, fun k hk => ?_, fun z hz => ?_⟩
        · show nI (o.length + 1) = _
          rw [List.length_append, List.length_singleton]
        · show upd (σ.1 27) o.length (nI y) k = _
          rw [List.length_append, List.length_singleton] at hk
          by_cases e : k = o.length
          · subst e; rw [upd_s, getD_last]
          · rw [upd_n e, getD_pre (by omega)]; exact h2 k (by omega)
        · show bt (σ.1 622 0 ||| zshl 1 (nI y)) z = _
          rw [b_or, bt_shl hy hz, h3 z hz]
          by_cases e1 : z ∈ o
          · rw [decide_eq_true e1, decide_eq_true (List.mem_append_left _ e1)]; rfl
          · rw [decide_eq_false e1]
            by_cases e2 : y = z
            · subst e2; rw [decide_eq_true rfl, decide_eq_true (List.mem_append_right _ List.mem_cons_self)]; rfl
            · rw [decide_eq_false e2, decide_eq_false (fun q => by
                rcases List.mem_append.mp q with q | q
                · exact e1 q
                · exact e2 (List.mem_singleton.mp q).symm)]
              rfl
      · rw [zF_n _ _ a, zI_n _ _ _ b, zF_n _ _ c]
/-- what a walk rests on -/
def WK_w (σ T : zS) : Prop := (∀ i, i < 32 → σ.1 16 i = nI (nc T i) ∧ nc T i ≤ 6) ∧ ∀ i k, i < za T → k < nc T i → σ.1 18 (6 * i + k) = oI (mt T (T.2 36 (6 * i + k)))
theorem WK_w.fr {σ σ' T : zS} (h : WK_w σ T) (hf : FR_w σ σ') : WK_w σ' T := by
  refine ⟨fun i hi => ?_, fun i k hi hk => ?_⟩
  · rw [hf.1 16 (by decide) (by decide) (by decide)]; exact h.1 i hi
  · rw [hf.1 18 (by decide) (by decide) (by decide)]; exact h.2 i k hi hk
theorem Q_row_w {T : zS} {i q : Nat} (ha : za T ≤ 32) (hi : i < za T) (hq : q ≤ 5000) (k17 : Int32 → zS → Option (Unit × zS)) : ∀ (m n k : Nat) (σ : zS) (o : List Nat), k + m = nc T i → m < n → CL_w σ o → zgl (za T) o → WK_w σ T →
    ∃ σ', fn_Q_walk_w_42 k17 n (nI q) (nI i) (nI k) σ = k17 (nI (q + 1)) σ' ∧ CL_w σ' (zrow T i m k o) ∧ FR_w σ σ' := by
  intro m
  induction m with
  | zero =>
    intro n k σ o hk hn hc hg hw
    obtain ⟨n, rfl⟩ : ∃ n', n = n' + 1 := ⟨n - 1, by omega⟩
    have h6 := (hw.1 i (by omega)).2
    refine ⟨σ, ?_, hc, FR_w.rf σ⟩
    rw [fn_Q_walk_w_42, zgd_t (zin_n (show i < 32 by omega) (by omega)), nIc (show i ≤ 5000 by omega), (hw.1 i (by omega)).1, if_neg (fun z => by have := (nIk (show k ≤ nc T i by omega) (by omega)).mp z; omega), nI_1]
  | succ m ih =>
    intro n k σ o hk hn hc hg hw
    obtain ⟨n, rfl⟩ : ∃ n', n = n' + 1 := ⟨n - 1, by omega⟩
    have h6 := (hw.1 i (by omega)).2
    have hg32 : zgl 32 o := ⟨hg.1, fun x hx => Nat.lt_of_lt_of_le (hg.2 x hx) ha⟩
    obtain ⟨σ1, h1, h2, h3⟩ := Q_reach_w hc hg32 (mt T (T.2 36 (6 * i + k))) (fun y hy => Nat.lt_of_lt_of_le (mt_lt hy) ha)
    obtain ⟨σ2, h4, h5, h7⟩ := ih n (k + 1) σ1 (zadd o (mt T (T.2 36 (6 * i + k)))) (by omega) (by omega) h2 (zadd_gl hg (fun y hy => mt_lt hy)) (hw.fr h3)
    refine ⟨σ2, ?_, h5, h3.tr h7⟩
    rw [fn_Q_walk_w_42, zgd_t (zin_n (show i < 32 by omega) (by omega)), nIc (show i ≤ 5000 by omega), (hw.1 i (by omega)).1, if_pos ((nIk (show k ≤ nc T i by omega) (by omega)).mpr (by omega))]
    unfold fn_A_metByAt
    rw [nI6', zgd_t (zin_n (show 6 * i + k < 192 by omega) (by omega)), nIc (show 6 * i + k ≤ 5000 by omega), zb_s, hw.2 i k hi (by omega), h1, zb_s, nI_1]
    exact h4
theorem Q_loop_w {T : zS} (ha : za T ≤ 32) : ∀ (f n q : Nat) (σ : zS) (o : List Nat), f < n → 33 ≤ q + f → q ≤ 33 → CL_w σ o → zgl (za T) o → WK_w σ T →
    ∃ σ', fn_Q_walk_w_17 n (nI q) σ = some ((), σ') ∧ CL_w σ' (zbfs T f q o) ∧ FR_w σ σ' := by
  intro f
  induction f with
  | zero =>
    intro n q σ o hn hq hq2 hc hg hw
    obtain ⟨n, rfl⟩ : ∃ n', n = n' + 1 := ⟨n - 1, by omega⟩
    refine ⟨σ, ?_, hc, FR_w.rf σ⟩
    rw [fn_Q_walk_w_17, if_neg (fun z => by have := (nIlt (b := 32) (show q ≤ 5000 by omega) (by omega)).mp z; omega)]
  | succ f ih =>
    intro n q σ o hn hq hq2 hc hg hw
    obtain ⟨n, rfl⟩ : ∃ n', n = n' + 1 := ⟨n - 1, by omega⟩
    have hl := zgl_len hg
    rw [fn_Q_walk_w_17, hc.1]
    unfold zbfs
    by_cases hqo : q < o.length
    · have h32 : nI q < (32 : Int32) := (nIlt (b := 32) (by omega) (by omega)).mpr (by omega)
      rw [if_pos h32, if_pos ((nIlt (by omega) (by omega)).mpr hqo), if_pos hqo, zgd_t (zin_n (show q < 32 by omega) (by omega)), nIc (show q ≤ 5000 by omega), hc.2.1 q hqo]
      have hi := getD_lt hg hqo
      obtain ⟨σ1, h1, h2, h3⟩ := Q_row_w (T := T) (i := o.getD q 0) (q := q) ha hi (by omega) (fn_Q_walk_w_17 n) (nc T (o.getD q 0)) 100 0 σ o (by omega) (by have := (hw.1 (o.getD q 0) (by omega)).2; omega) hc hg hw
      obtain ⟨σ2, h4, h5, h6⟩ := ih n (q + 1) σ1 _ (by omega) (by omega) (by omega) h2 (zrow_gl _ _ _ hg) (hw.fr h3)
      exact ⟨σ2, h1.trans h4, h5, h3.tr h6⟩
    · rw [if_neg hqo]
      refine ⟨σ, ?_, hc, FR_w.rf σ⟩
      by_cases h32 : nI q < (32 : Int32)
      · rw [if_pos h32, if_neg (fun z => hqo ((nIlt (by omega) (by omega)).mp z))]
      · rw [if_neg h32]
theorem Q_walk_w {σ T : zS} (ha : za T ≤ 32) (hw : WK_w σ T) {i : Nat} (hi : i < za T) : ∃ σ', fn_Q_walk_w (nI i) σ = some ((), σ') ∧ CL_w σ' (clo T i) ∧ FR_w σ σ' := by
  unfold fn_Q_walk_w
  rw [zst_e, zst_e]
  have hf : FR_w σ (zF (zF σ 620 0) 622 0) := ⟨fun j a b c => by rw [zF_n _ _ c, zF_n _ _ a], rfl⟩
  have hc0 : CL_w (zF (zF σ 620 0) 622 0) [] := ⟨rfl, fun k hk => absurd hk (by simp), fun x hx => by
    show bt 0 x = _
    rw [b_0]
    exact (decide_eq_false (by simp)).symm⟩
  obtain ⟨σ1, h1, h2, h3⟩ := Q_reach_w hc0 ⟨by simp, fun x hx => by simp at hx⟩ (some i) (fun y hy => by cases hy; omega)
  have h1 : fn_Q_reach_w (nI i) (zF (zF σ 620 0) 622 0) = some ((), σ1) := h1
  rw [h1, zb_s]
  have h2 : CL_w σ1 [i] := h2
  obtain ⟨σ2, h4, h5, h6⟩ := Q_loop_w ha 33 100 0 σ1 [i] (by omega) (by omega) (by omega) h2 (zgl_one hi) ((hw.fr hf).fr h3)
  exact ⟨σ2, h4, h5, (hf.tr h3).tr h6⟩
theorem WK_w.of {σ T : zS} (hI : zIv T) (hR : zRC σ T) : WK_w σ T := by
  obtain ⟨r1, r2, r3, r4, r5, r6, r7, r8, r9, r10, r11, r12, r13, r14, r15, r16, r17, r18, r19, r20, r21, r22, r23, r24⟩ := id hR
  exact ⟨fun i hi => ⟨by rw [r15]; exact (hI.2.1 i hi).2.2.1, (hI.2.1 i hi).2.2.2.1⟩, r24⟩

/-! the class's closure, instance c -/
def CL_c (σ : zS) (o : List Nat) : Prop := σ.1 660 0 = nI o.length ∧ (∀ k, k < o.length → σ.1 29 k = nI (o.getD k 0)) ∧ ∀ x, x < 32 → bt (σ.1 662 0) x = decide (x ∈ o)
def FR_c (σ σ' : zS) : Prop := (∀ j, j ≠ 660 → j ≠ 29 → j ≠ 662 → σ'.1 j = σ.1 j) ∧ σ'.2 = σ.2
theorem FR_c.rf (σ : zS) : FR_c σ σ := ⟨fun _ _ _ _ => rfl, rfl⟩
theorem FR_c.tr {a b c : zS} (h1 : FR_c a b) (h2 : FR_c b c) : FR_c a c := ⟨fun j x y z => (h2.1 j x y z).trans (h1.1 j x y z), h2.2.trans h1.2⟩
theorem Q_reach_c {σ : zS} {o : List Nat} (hc : CL_c σ o) (hg : zgl 32 o) (x : Option Nat) (hx : ∀ y, x = some y → y < 32) : ∃ σ', fn_Q_reach_c (oI x) σ = some ((), σ') ∧ CL_c σ' (zadd o x) ∧ FR_c σ σ' := by
  obtain ⟨h1, h2, h3⟩ := id hc
  unfold fn_Q_reach_c
  cases x with
  | none =>
    rw [if_pos (show oI none = -1 from rfl)]
    exact ⟨σ, rfl, hc, FR_c.rf σ⟩
  | some y =>
    have hy := hx y rfl
    show ∃ σ', (if nI y = -1 then some ((), σ) else _) = some ((), σ') ∧ _
    rw [if_neg (nIm1 (by omega))]
    show ∃ σ', zb (fn_P_hasBit (σ.1 662 0) (nI y) σ) _ = some ((), σ') ∧ _
    rw [P_hasBit _ hy, zb_s, h3 y hy]
    by_cases hm : y ∈ o
    · rw [decide_eq_true hm, if_neg bi_t0]
      refine ⟨σ, rfl, ?_, FR_c.rf σ⟩
      show CL_c σ (zcome o y)
      unfold zcome
      rw [if_pos hm]
      exact hc
    · rw [decide_eq_false hm, if_pos bi_f0, h1]
      have hg2 := zgl_app hg hy hm
      have hl := zgl_len hg2
      rw [List.length_append, List.length_singleton] at hl
      have hlt : nI o.length < (32 : Int32) := (nIlt (b := 32) (by omega) (by omega)).mpr (by omega)
      rw [if_pos hlt]
      simp only [zL_1, zI_2, zF_2, zI_s, zI_n, zF_s, zF_n, ne_eq, Nat.reduceEqDiff, not_false_eq_true, zst_e, h1, nIc (show o.length ≤ 5000 by omega), zgd_t (zin_n (show o.length < 32 by omega) (show (32 : Nat) ≤ 5000 by omega)), nI_1]
      refine ⟨_, rfl, ?_, fun j a b c => ?_, rfl⟩
      · show CL_c _ (zcome o y)
        unfold zcome
        rw [if_neg hm]
        refine ⟨?_, fun k hk => ?_, fun z hz => ?_⟩
        · show nI (o.length + 1) = _
          rw [List.length_append, List.length_singleton]
        · show upd (σ.1 29) o.length (nI y) k = _
          rw [List.length_append, List.length_singleton] at hk
          by_cases e : k = o.length
          · subst e; rw [upd_s, getD_last]
          · rw [upd_n e, getD_pre (by omega)]; exact h2 k (by omega)
        · show bt (σ.1 662 0 ||| zshl 1 (nI y)) z = _
          rw [b_or, bt_shl hy hz, h3 z hz]
          by_cases e1 : z ∈ o
          · rw [decide_eq_true e1, decide_eq_true (List.mem_append_left _ e1)]; rfl
          · rw [decide_eq_false e1]
            by_cases e2 : y = z
            · subst e2; rw [decide_eq_true rfl, decide_eq_true (List.mem_append_right _ List.mem_cons_self)]; rfl
            · rw [decide_eq_false e2, decide_eq_false (fun q => by
                rcases List.mem_append.mp q with q | q
                · exact e1 q
                · exact e2 (List.mem_singleton.mp q).symm)]
              rfl
      · rw [zF_n _ _ a, zI_n _ _ _ b, zF_n _ _ c]
/-- what a walk rests on -/
def WK_c (σ T : zS) : Prop := (∀ i, i < 32 → σ.1 16 i = nI (nc T i) ∧ nc T i ≤ 6) ∧ ∀ i k, i < za T → k < nc T i → σ.1 18 (6 * i + k) = oI (mt T (T.2 36 (6 * i + k)))
theorem WK_c.fr {σ σ' T : zS} (h : WK_c σ T) (hf : FR_c σ σ') : WK_c σ' T := by
  refine ⟨fun i hi => ?_, fun i k hi hk => ?_⟩
  · rw [hf.1 16 (by decide) (by decide) (by decide)]; exact h.1 i hi
  · rw [hf.1 18 (by decide) (by decide) (by decide)]; exact h.2 i k hi hk
theorem Q_row_c {T : zS} {i q : Nat} (ha : za T ≤ 32) (hi : i < za T) (hq : q ≤ 5000) (k17 : Int32 → zS → Option (Unit × zS)) : ∀ (m n k : Nat) (σ : zS) (o : List Nat), k + m = nc T i → m < n → CL_c σ o → zgl (za T) o → WK_c σ T →
    ∃ σ', fn_Q_walk_c_42 k17 n (nI q) (nI i) (nI k) σ = k17 (nI (q + 1)) σ' ∧ CL_c σ' (zrow T i m k o) ∧ FR_c σ σ' := by
  intro m
  induction m with
  | zero =>
    intro n k σ o hk hn hc hg hw
    obtain ⟨n, rfl⟩ : ∃ n', n = n' + 1 := ⟨n - 1, by omega⟩
    have h6 := (hw.1 i (by omega)).2
    refine ⟨σ, ?_, hc, FR_c.rf σ⟩
    rw [fn_Q_walk_c_42, zgd_t (zin_n (show i < 32 by omega) (by omega)), nIc (show i ≤ 5000 by omega), (hw.1 i (by omega)).1, if_neg (fun z => by have := (nIk (show k ≤ nc T i by omega) (by omega)).mp z; omega), nI_1]
  | succ m ih =>
    intro n k σ o hk hn hc hg hw
    obtain ⟨n, rfl⟩ : ∃ n', n = n' + 1 := ⟨n - 1, by omega⟩
    have h6 := (hw.1 i (by omega)).2
    have hg32 : zgl 32 o := ⟨hg.1, fun x hx => Nat.lt_of_lt_of_le (hg.2 x hx) ha⟩
    obtain ⟨σ1, h1, h2, h3⟩ := Q_reach_c hc hg32 (mt T (T.2 36 (6 * i + k))) (fun y hy => Nat.lt_of_lt_of_le (mt_lt hy) ha)
    obtain ⟨σ2, h4, h5, h7⟩ := ih n (k + 1) σ1 (zadd o (mt T (T.2 36 (6 * i + k)))) (by omega) (by omega) h2 (zadd_gl hg (fun y hy => mt_lt hy)) (hw.fr h3)
    refine ⟨σ2, ?_, h5, h3.tr h7⟩
    rw [fn_Q_walk_c_42, zgd_t (zin_n (show i < 32 by omega) (by omega)), nIc (show i ≤ 5000 by omega), (hw.1 i (by omega)).1, if_pos ((nIk (show k ≤ nc T i by omega) (by omega)).mpr (by omega))]
    unfold fn_A_metByAt
    rw [nI6', zgd_t (zin_n (show 6 * i + k < 192 by omega) (by omega)), nIc (show 6 * i + k ≤ 5000 by omega), zb_s, hw.2 i k hi (by omega), h1, zb_s, nI_1]
    exact h4
theorem Q_loop_c {T : zS} (ha : za T ≤ 32) : ∀ (f n q : Nat) (σ : zS) (o : List Nat), f < n → 33 ≤ q + f → q ≤ 33 → CL_c σ o → zgl (za T) o → WK_c σ T →
    ∃ σ', fn_Q_walk_c_17 n (nI q) σ = some ((), σ') ∧ CL_c σ' (zbfs T f q o) ∧ FR_c σ σ' := by
  intro f
  induction f with
  | zero =>
    intro n q σ o hn hq hq2 hc hg hw
    obtain ⟨n, rfl⟩ : ∃ n', n = n' + 1 := ⟨n - 1, by omega⟩
    refine ⟨σ, ?_, hc, FR_c.rf σ⟩
    rw [fn_Q_walk_c_17, if_neg (fun z => by have := (nIlt (b := 32) (show q ≤ 5000 by omega) (by omega)).mp z; omega)]
  | succ f ih =>
    intro n q σ o hn hq hq2 hc hg hw
    obtain ⟨n, rfl⟩ : ∃ n', n = n' + 1 := ⟨n - 1, by omega⟩
    have hl := zgl_len hg
    rw [fn_Q_walk_c_17, hc.1]
    unfold zbfs
    by_cases hqo : q < o.length
    · have h32 : nI q < (32 : Int32) := (nIlt (b := 32) (by omega) (by omega)).mpr (by omega)
      rw [if_pos h32, if_pos ((nIlt (by omega) (by omega)).mpr hqo), if_pos hqo, zgd_t (zin_n (show q < 32 by omega) (by omega)), nIc (show q ≤ 5000 by omega), hc.2.1 q hqo]
      have hi := getD_lt hg hqo
      obtain ⟨σ1, h1, h2, h3⟩ := Q_row_c (T := T) (i := o.getD q 0) (q := q) ha hi (by omega) (fn_Q_walk_c_17 n) (nc T (o.getD q 0)) 100 0 σ o (by omega) (by have := (hw.1 (o.getD q 0) (by omega)).2; omega) hc hg hw
      obtain ⟨σ2, h4, h5, h6⟩ := ih n (q + 1) σ1 _ (by omega) (by omega) (by omega) h2 (zrow_gl _ _ _ hg) (hw.fr h3)
      exact ⟨σ2, h1.trans h4, h5, h3.tr h6⟩
    · rw [if_neg hqo]
      refine ⟨σ, ?_, hc, FR_c.rf σ⟩
      by_cases h32 : nI q < (32 : Int32)
      · rw [if_pos h32, if_neg (fun z => hqo ((nIlt (by omega) (by omega)).mp z))]
      · rw [if_neg h32]
theorem Q_walk_c {σ T : zS} (ha : za T ≤ 32) (hw : WK_c σ T) {i : Nat} (hi : i < za T) : ∃ σ', fn_Q_walk_c (nI i) σ = some ((), σ') ∧ CL_c σ' (clo T i) ∧ FR_c σ σ' := by
  unfold fn_Q_walk_c
  rw [zst_e, zst_e]
  have hf : FR_c σ (zF (zF σ 660 0) 662 0) := ⟨fun j a b c => by rw [zF_n _ _ c, zF_n _ _ a], rfl⟩
  have hc0 : CL_c (zF (zF σ 660 0) 662 0) [] := ⟨rfl, fun k hk => absurd hk (by simp), fun x hx => by
    show bt 0 x = _
    rw [b_0]
    exact (decide_eq_false (by simp)).symm⟩
  obtain ⟨σ1, h1, h2, h3⟩ := Q_reach_c hc0 ⟨by simp, fun x hx => by simp at hx⟩ (some i) (fun y hy => by cases hy; omega)
  have h1 : fn_Q_reach_c (nI i) (zF (zF σ 660 0) 662 0) = some ((), σ1) := h1
  rw [h1, zb_s]
  have h2 : CL_c σ1 [i] := h2
  obtain ⟨σ2, h4, h5, h6⟩ := Q_loop_c ha 33 100 0 σ1 [i] (by omega) (by omega) (by omega) h2 (zgl_one hi) ((hw.fr hf).fr h3)
  exact ⟨σ2, h4, h5, (hf.tr h3).tr h6⟩
theorem WK_c.of {σ T : zS} (hI : zIv T) (hR : zRC σ T) : WK_c σ T := by
  obtain ⟨r1, r2, r3, r4, r5, r6, r7, r8, r9, r10, r11, r12, r13, r14, r15, r16, r17, r18, r19, r20, r21, r22, r23, r24⟩ := id hR
  exact ⟨fun i hi => ⟨by rw [r15]; exact (hI.2.1 i hi).2.2.1, (hI.2.1 i hi).2.2.2.1⟩, r24⟩

/-! the class's closure, instance l -/
def CL_l (σ : zS) (o : List Nat) : Prop := σ.1 580 0 = nI o.length ∧ (∀ k, k < o.length → σ.1 25 k = nI (o.getD k 0)) ∧ ∀ x, x < 32 → bt (σ.1 582 0) x = decide (x ∈ o)
def FR_l (σ σ' : zS) : Prop := (∀ j, j ≠ 580 → j ≠ 25 → j ≠ 582 → σ'.1 j = σ.1 j) ∧ σ'.2 = σ.2
theorem FR_l.rf (σ : zS) : FR_l σ σ := ⟨fun _ _ _ _ => rfl, rfl⟩
theorem FR_l.tr {a b c : zS} (h1 : FR_l a b) (h2 : FR_l b c) : FR_l a c := ⟨fun j x y z => (h2.1 j x y z).trans (h1.1 j x y z), h2.2.trans h1.2⟩
theorem Q_reach_l {σ : zS} {o : List Nat} (hc : CL_l σ o) (hg : zgl 32 o) (x : Option Nat) (hx : ∀ y, x = some y → y < 32) : ∃ σ', fn_Q_reach_l (oI x) σ = some ((), σ') ∧ CL_l σ' (zadd o x) ∧ FR_l σ σ' := by
  obtain ⟨h1, h2, h3⟩ := id hc
  unfold fn_Q_reach_l
  cases x with
  | none =>
    rw [if_pos (show oI none = -1 from rfl)]
    exact ⟨σ, rfl, hc, FR_l.rf σ⟩
  | some y =>
    have hy := hx y rfl
    show ∃ σ', (if nI y = -1 then some ((), σ) else _) = some ((), σ') ∧ _
    rw [if_neg (nIm1 (by omega))]
    show ∃ σ', zb (fn_P_hasBit (σ.1 582 0) (nI y) σ) _ = some ((), σ') ∧ _
    rw [P_hasBit _ hy, zb_s, h3 y hy]
    by_cases hm : y ∈ o
    · rw [decide_eq_true hm, if_neg bi_t0]
      refine ⟨σ, rfl, ?_, FR_l.rf σ⟩
      show CL_l σ (zcome o y)
      unfold zcome
      rw [if_pos hm]
      exact hc
    · rw [decide_eq_false hm, if_pos bi_f0, h1]
      have hg2 := zgl_app hg hy hm
      have hl := zgl_len hg2
      rw [List.length_append, List.length_singleton] at hl
      have hlt : nI o.length < (32 : Int32) := (nIlt (b := 32) (by omega) (by omega)).mpr (by omega)
      rw [if_pos hlt]
      simp only [zL_1, zI_2, zF_2, zI_s, zI_n, zF_s, zF_n, ne_eq, Nat.reduceEqDiff, not_false_eq_true, zst_e, h1, nIc (show o.length ≤ 5000 by omega), zgd_t (zin_n (show o.length < 32 by omega) (show (32 : Nat) ≤ 5000 by omega)), nI_1]
      refine ⟨_, rfl, ?_, fun j a b c => ?_, rfl⟩
      · show CL_l _ (zcome o y)
        unfold zcome
        rw [if_neg hm]
        refine ⟨?_, fun k hk => ?_, fun z hz => ?_⟩
        · show nI (o.length + 1) = _
          rw [List.length_append, List.length_singleton]
        · show upd (σ.1 25) o.length (nI y) k = _
          rw [List.length_append, List.length_singleton] at hk
          by_cases e : k = o.length
          · subst e; rw [upd_s, getD_last]
          · rw [upd_n e, getD_pre (by omega)]; exact h2 k (by omega)
        · show bt (σ.1 582 0 ||| zshl 1 (nI y)) z = _
          rw [b_or, bt_shl hy hz, h3 z hz]
          by_cases e1 : z ∈ o
          · rw [decide_eq_true e1, decide_eq_true (List.mem_append_left _ e1)]; rfl
          · rw [decide_eq_false e1]
            by_cases e2 : y = z
            · subst e2; rw [decide_eq_true rfl, decide_eq_true (List.mem_append_right _ List.mem_cons_self)]; rfl
            · rw [decide_eq_false e2, decide_eq_false (fun q => by
                rcases List.mem_append.mp q with q | q
                · exact e1 q
                · exact e2 (List.mem_singleton.mp q).symm)]
              rfl
      · rw [zF_n _ _ a, zI_n _ _ _ b, zF_n _ _ c]
/-- what a walk rests on -/
def WK_l (σ T : zS) : Prop := (∀ i, i < 32 → σ.1 16 i = nI (nc T i) ∧ nc T i ≤ 6) ∧ ∀ i k, i < za T → k < nc T i → σ.1 18 (6 * i + k) = oI (mt T (T.2 36 (6 * i + k)))
theorem WK_l.fr {σ σ' T : zS} (h : WK_l σ T) (hf : FR_l σ σ') : WK_l σ' T := by
  refine ⟨fun i hi => ?_, fun i k hi hk => ?_⟩
  · rw [hf.1 16 (by decide) (by decide) (by decide)]; exact h.1 i hi
  · rw [hf.1 18 (by decide) (by decide) (by decide)]; exact h.2 i k hi hk
theorem Q_row_l {T : zS} {i q : Nat} (ha : za T ≤ 32) (hi : i < za T) (hq : q ≤ 5000) (k17 : Int32 → zS → Option (Unit × zS)) : ∀ (m n k : Nat) (σ : zS) (o : List Nat), k + m = nc T i → m < n → CL_l σ o → zgl (za T) o → WK_l σ T →
    ∃ σ', fn_Q_walk_l_42 k17 n (nI q) (nI i) (nI k) σ = k17 (nI (q + 1)) σ' ∧ CL_l σ' (zrow T i m k o) ∧ FR_l σ σ' := by
  intro m
  induction m with
  | zero =>
    intro n k σ o hk hn hc hg hw
    obtain ⟨n, rfl⟩ : ∃ n', n = n' + 1 := ⟨n - 1, by omega⟩
    have h6 := (hw.1 i (by omega)).2
    refine ⟨σ, ?_, hc, FR_l.rf σ⟩
    rw [fn_Q_walk_l_42, zgd_t (zin_n (show i < 32 by omega) (by omega)), nIc (show i ≤ 5000 by omega), (hw.1 i (by omega)).1, if_neg (fun z => by have := (nIk (show k ≤ nc T i by omega) (by omega)).mp z; omega), nI_1]
  | succ m ih =>
    intro n k σ o hk hn hc hg hw
    obtain ⟨n, rfl⟩ : ∃ n', n = n' + 1 := ⟨n - 1, by omega⟩
    have h6 := (hw.1 i (by omega)).2
    have hg32 : zgl 32 o := ⟨hg.1, fun x hx => Nat.lt_of_lt_of_le (hg.2 x hx) ha⟩
    obtain ⟨σ1, h1, h2, h3⟩ := Q_reach_l hc hg32 (mt T (T.2 36 (6 * i + k))) (fun y hy => Nat.lt_of_lt_of_le (mt_lt hy) ha)
    obtain ⟨σ2, h4, h5, h7⟩ := ih n (k + 1) σ1 (zadd o (mt T (T.2 36 (6 * i + k)))) (by omega) (by omega) h2 (zadd_gl hg (fun y hy => mt_lt hy)) (hw.fr h3)
    refine ⟨σ2, ?_, h5, h3.tr h7⟩
    rw [fn_Q_walk_l_42, zgd_t (zin_n (show i < 32 by omega) (by omega)), nIc (show i ≤ 5000 by omega), (hw.1 i (by omega)).1, if_pos ((nIk (show k ≤ nc T i by omega) (by omega)).mpr (by omega))]
    unfold fn_A_metByAt
    rw [nI6', zgd_t (zin_n (show 6 * i + k < 192 by omega) (by omega)), nIc (show 6 * i + k ≤ 5000 by omega), zb_s, hw.2 i k hi (by omega), h1, zb_s, nI_1]
    exact h4
theorem Q_loop_l {T : zS} (ha : za T ≤ 32) : ∀ (f n q : Nat) (σ : zS) (o : List Nat), f < n → 33 ≤ q + f → q ≤ 33 → CL_l σ o → zgl (za T) o → WK_l σ T →
    ∃ σ', fn_Q_walk_l_17 n (nI q) σ = some ((), σ') ∧ CL_l σ' (zbfs T f q o) ∧ FR_l σ σ' := by
  intro f
  induction f with
  | zero =>
    intro n q σ o hn hq hq2 hc hg hw
    obtain ⟨n, rfl⟩ : ∃ n', n = n' + 1 := ⟨n - 1, by omega⟩
    refine ⟨σ, ?_, hc, FR_l.rf σ⟩
    rw [fn_Q_walk_l_17, if_neg (fun z => by have := (nIlt (b := 32) (show q ≤ 5000 by omega) (by omega)).mp z; omega)]
  | succ f ih =>
    intro n q σ o hn hq hq2 hc hg hw
    obtain ⟨n, rfl⟩ : ∃ n', n = n' + 1 := ⟨n - 1, by omega⟩
    have hl := zgl_len hg
    rw [fn_Q_walk_l_17, hc.1]
    unfold zbfs
    by_cases hqo : q < o.length
    · have h32 : nI q < (32 : Int32) := (nIlt (b := 32) (by omega) (by omega)).mpr (by omega)
      rw [if_pos h32, if_pos ((nIlt (by omega) (by omega)).mpr hqo), if_pos hqo, zgd_t (zin_n (show q < 32 by omega) (by omega)), nIc (show q ≤ 5000 by omega), hc.2.1 q hqo]
      have hi := getD_lt hg hqo
      obtain ⟨σ1, h1, h2, h3⟩ := Q_row_l (T := T) (i := o.getD q 0) (q := q) ha hi (by omega) (fn_Q_walk_l_17 n) (nc T (o.getD q 0)) 100 0 σ o (by omega) (by have := (hw.1 (o.getD q 0) (by omega)).2; omega) hc hg hw
      obtain ⟨σ2, h4, h5, h6⟩ := ih n (q + 1) σ1 _ (by omega) (by omega) (by omega) h2 (zrow_gl _ _ _ hg) (hw.fr h3)
      exact ⟨σ2, h1.trans h4, h5, h3.tr h6⟩
    · rw [if_neg hqo]
      refine ⟨σ, ?_, hc, FR_l.rf σ⟩
      by_cases h32 : nI q < (32 : Int32)
      · rw [if_pos h32, if_neg (fun z => hqo ((nIlt (by omega) (by omega)).mp z))]
      · rw [if_neg h32]
theorem Q_walk_l {σ T : zS} (ha : za T ≤ 32) (hw : WK_l σ T) {i : Nat} (hi : i < za T) : ∃ σ', fn_Q_walk_l (nI i) σ = some ((), σ') ∧ CL_l σ' (clo T i) ∧ FR_l σ σ' := by
  unfold fn_Q_walk_l
  rw [zst_e, zst_e]
  have hf : FR_l σ (zF (zF σ 580 0) 582 0) := ⟨fun j a b c => by rw [zF_n _ _ c, zF_n _ _ a], rfl⟩
  have hc0 : CL_l (zF (zF σ 580 0) 582 0) [] := ⟨rfl, fun k hk => absurd hk (by simp), fun x hx => by
    show bt 0 x = _
    rw [b_0]
    exact (decide_eq_false (by simp)).symm⟩
  obtain ⟨σ1, h1, h2, h3⟩ := Q_reach_l hc0 ⟨by simp, fun x hx => by simp at hx⟩ (some i) (fun y hy => by cases hy; omega)
  have h1 : fn_Q_reach_l (nI i) (zF (zF σ 580 0) 582 0) = some ((), σ1) := h1
  rw [h1, zb_s]
  have h2 : CL_l σ1 [i] := h2
  obtain ⟨σ2, h4, h5, h6⟩ := Q_loop_l ha 33 100 0 σ1 [i] (by omega) (by omega) (by omega) h2 (zgl_one hi) ((hw.fr hf).fr h3)
  exact ⟨σ2, h4, h5, (hf.tr h3).tr h6⟩
theorem WK_l.of {σ T : zS} (hI : zIv T) (hR : zRC σ T) : WK_l σ T := by
  obtain ⟨r1, r2, r3, r4, r5, r6, r7, r8, r9, r10, r11, r12, r13, r14, r15, r16, r17, r18, r19, r20, r21, r22, r23, r24⟩ := id hR
  exact ⟨fun i hi => ⟨by rw [r15]; exact (hI.2.1 i hi).2.2.1, (hI.2.1 i hi).2.2.2.1⟩, r24⟩
