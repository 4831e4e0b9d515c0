/-! what a state is: the reference's numbers without its scratch rows; the class's beside them -/
def zsc (k : Nat) : Bool := Nat.beq k 721 || (Nat.beq k 722 || (Nat.beq k 48 || Nat.beq k 49))
def zc (τ : zS) : zS := (fun k => bif zsc k then (fun _ => 0) else τ.1 k, τ.2)
def zn (T : zS) : Nat := (T.1 700 0).toNatClampNeg
def za (T : zS) : Nat := (T.1 701 0).toNatClampNeg
def zp (T : zS) : Nat := (T.1 702 0).toNatClampNeg
def zk (T : zS) : Nat := (T.1 723 0).toNatClampNeg
def uc (T : zS) (i : Nat) : Nat := (T.1 42 i).toNatClampNeg
def nc (T : zS) (i : Nat) : Nat := (T.1 44 i).toNatClampNeg
def us (T : zS) (j : Nat) : Nat := (T.1 43 j).toNatClampNeg
/-- what meets a digest -/
def mt (T : zS) (d : Int64) : Option Nat := zfst (fun i => decide (T.2 35 i = d)) (za T) 0
def zI1 (T : zS) : Prop := T.1 700 0 = nI (zn T) ∧ zn T ≤ 24 ∧ T.1 701 0 = nI (za T) ∧ za T ≤ 32 ∧ T.1 702 0 = nI (zp T) ∧ zp T ≤ 16 ∧ T.1 723 0 = nI (zk T) ∧ zk T ≤ 32
def zI2 (T : zS) : Prop := ∀ i, i < 32 → T.1 42 i = nI (uc T i) ∧ uc T i ≤ 6 ∧ T.1 44 i = nI (nc T i) ∧ nc T i ≤ 6 ∧ (za T ≤ i → uc T i = 0 ∧ nc T i = 0)
def zI3 (T : zS) : Prop := ∀ i k, i < 32 → k < uc T i → T.1 43 (6 * i + k) = nI (us T (6 * i + k)) ∧ us T (6 * i + k) < zn T
def zI4 (T : zS) : Prop := ∀ i, i < 32 → (T.1 38 i = -1 ∨ ∃ b : Nat, b ≤ 7 ∧ T.1 38 i = nI b) ∧ (∃ b : Nat, b ≤ 7 ∧ T.1 39 i = nI b) ∧ (∃ b : Nat, b ≤ 15 ∧ T.1 40 i = nI b)
def zI5 (T : zS) : Prop := ∀ s, s < 24 → (∃ b : Nat, b ≤ 7 ∧ T.1 32 s = nI b) ∧ (∃ r : Nat, r < 65536 ∧ T.1 33 s = nI r)
def zI6 (T : zS) : Prop := ∀ r, r < 16 → ∃ k : Nat, k ≤ 9 ∧ T.1 46 r = nI k
def zI7 (T : zS) : Prop := ∀ i p, i < 32 → p < 8 → bt (T.1 45 i) p = false → T.2 37 (8 * i + p) = 0
def zIv (T : zS) : Prop := zI1 T ∧ zI2 T ∧ zI3 T ∧ zI4 T ∧ zI5 T ∧ zI6 T ∧ zI7 T
def zRC (σ T : zS) : Prop :=
  σ.1 120 0 = T.1 700 0 ∧ σ.1 220 0 = T.1 701 0 ∧ σ.1 520 0 = T.1 702 0 ∧ σ.2 2 = T.2 31 ∧ σ.1 3 = T.1 32 ∧ σ.1 4 = T.1 33 ∧ σ.1 5 = T.1 34 ∧
  σ.2 7 = T.2 35 ∧ σ.1 8 = T.1 38 ∧ σ.1 9 = T.1 39 ∧ σ.1 10 = T.1 40 ∧ σ.1 11 = T.1 41 ∧ σ.1 13 = T.1 42 ∧ (∀ j, σ.2 14 j = (T.1 43 j).toInt64) ∧ σ.1 16 = T.1 44 ∧ σ.2 17 = T.2 36 ∧
  σ.1 19 = T.1 45 ∧ σ.2 20 = T.2 37 ∧ σ.1 22 = T.1 46 ∧ σ.1 23 = T.1 47 ∧ σ.1 106 0 = T.1 720 0 ∧ σ.1 580 0 = T.1 723 0 ∧ (∀ k, k < zk T → σ.1 25 k = T.1 50 k) ∧
  (∀ i k, i < za T → k < nc T i → σ.1 18 (6 * i + k) = oI (mt T (T.2 36 (6 * i + k))))
def zRel (σ τ : zS) : Prop := zIv (zc τ) ∧ zRC σ (zc τ)
/-- both answer the same, and stay beside each other -/
def zOK (f g : Option (Int32 × zS)) : Prop := ∃ (r : Int32) (σ' τ' : zS), f = some (r, σ') ∧ g = some (r, τ') ∧ zRel σ' τ'
theorem zOK.same {σ τ : zS} {r : Int32} {f g : Option (Int32 × zS)} (h : zRel σ τ) (hf : f = some (r, σ)) (hg : g = some (r, τ)) : zOK f g := ⟨r, σ, τ, hf, hg, h⟩
theorem upd_s {f : Nat → Int32} {k : Nat} {x : Int32} : upd f k x k = x := by simp [upd]
theorem upd_n {f : Nat → Int32} {k j : Nat} {x : Int32} (h : j ≠ k) : upd f k x j = f j := by simp [upd, h]
theorem updL_s {f : Nat → Int64} {k : Nat} {x : Int64} : vp_updL f k x k = x := by simp [vp_updL]
theorem updL_n {f : Nat → Int64} {k j : Nat} {x : Int64} (h : j ≠ k) : vp_updL f k x j = f j := by simp [vp_updL, h]
/-- the guard 'low .. high' of the reference -/
theorem M_within (x : Int32) (a b : Int32) (τ : zS) : fn_M_within x a b τ = some (bi (decide (¬ x < a ∧ ¬ b < x)), τ) := by
  unfold fn_M_within
  by_cases h1 : x < a
  · rw [if_pos h1, decide_eq_false (fun h => h.1 h1)]; rfl
  · rw [if_neg h1]
    by_cases h2 : b < x
    · rw [if_pos h2, decide_eq_false (fun h => h.2 h2)]; rfl
    · rw [if_neg h2, decide_eq_true ⟨h1, h2⟩]; rfl
theorem P_isUpTo (x b : Int32) (σ : zS) : fn_P_isUpTo x b σ = some (bi (decide (¬ x < 0 ∧ ¬ b < x)), σ) := by
  unfold fn_P_isUpTo
  by_cases h1 : x < 0
  · rw [if_pos h1, decide_eq_false (fun h => h.1 h1)]; rfl
  · rw [if_neg h1]
    by_cases h2 : b < x
    · rw [if_pos h2, decide_eq_false (fun h => h.2 h2)]; rfl
    · rw [if_neg h2, decide_eq_true ⟨h1, h2⟩]; rfl
theorem bi_t {b : Bool} (h : b = true) : bi b = 1 := by subst h; rfl
theorem bi_f {b : Bool} (h : b = false) : bi b = 0 := by subst h; rfl
theorem bi_0 (b : Bool) : (bi b = 0) ↔ b = false := by cases b <;> decide
theorem zbo_bi (b : Bool) : zbo (bi b) = true := by cases b <;> decide
/-- a number in 0 .. b -/
theorem nIto {x : Int32} {b : Nat} (hb : b < 2 ^ 31) (h : ¬ x < 0 ∧ ¬ nI b < x) : ∃ j : Nat, j ≤ b ∧ x = nI j := by
  obtain ⟨j, hj, rfl⟩ := nI_of h.1
  refine ⟨j, ?_, rfl⟩
  rcases Nat.lt_or_ge b j with q | q
  · exact absurd ((nI_ltI hb hj).mpr q) h.2
  · exact q
theorem hasG {x : Int32} {c : Nat} (hc : c ≤ 5000) (σ : zS) : (if x < 0 then some ((0 : Int32), σ) else if x < nI c then some ((1 : Int32), σ) else some ((0 : Int32), σ)) = some (bi (decide (∃ j : Nat, j < c ∧ x = nI j)), σ) := by
  rcases nIrange x hc with h | ⟨j, hj, rfl⟩
  · have hn : ¬ ∃ j : Nat, j < c ∧ x = nI j := by
      rintro ⟨j, hj, rfl⟩
      rcases h with h | h
      · exact nIn0 (by omega) h
      · exact h ((nIlt (by omega) hc).mpr hj)
    rw [decide_eq_false hn]
    by_cases h1 : x < 0
    · rw [if_pos h1]; rfl
    · rw [if_neg h1, if_neg (h.resolve_left h1)]; rfl
  · rw [if_neg (nIn0 (by omega)), if_pos ((nIlt (by omega) hc).mpr hj), decide_eq_true ⟨j, hj, rfl⟩]; rfl
theorem M_isArt {τ : zS} (hI : zIv (zc τ)) (x : Int32) : fn_M_isArtefact x τ = some (bi (decide (∃ j : Nat, j < za (zc τ) ∧ x = nI j)), τ) := by
  have h1 : τ.1 701 0 = nI (za (zc τ)) := hI.1.2.2.1
  have h2 : za (zc τ) ≤ 32 := hI.1.2.2.2.1
  unfold fn_M_isArtefact
  rw [h1]
  exact hasG (by omega) τ
theorem M_isSrc {τ : zS} (hI : zIv (zc τ)) (x : Int32) : fn_M_isSource x τ = some (bi (decide (∃ j : Nat, j < zn (zc τ) ∧ x = nI j)), τ) := by
  have h1 : τ.1 700 0 = nI (zn (zc τ)) := hI.1.1
  have h2 : zn (zc τ) ≤ 24 := hI.1.2.1
  unfold fn_M_isSource
  rw [h1]
  exact hasG (by omega) τ
theorem A_has {σ T : zS} (hI : zIv T) (hR : zRC σ T) (x : Int32) : fn_A_has x σ = some (bi (decide (∃ j : Nat, j < za T ∧ x = nI j)), σ) := by
  have h1 : σ.1 220 0 = nI (za T) := hR.2.1.trans hI.1.2.2.1
  have h2 : za T ≤ 32 := hI.1.2.2.2.1
  unfold fn_A_has
  rw [h1]
  exact hasG (by omega) σ
theorem S_has {σ T : zS} (hI : zIv T) (hR : zRC σ T) (x : Int32) : fn_S_has x σ = some (bi (decide (∃ j : Nat, j < zn T ∧ x = nI j)), σ) := by
  have h1 : σ.1 120 0 = nI (zn T) := hR.1.trans hI.1.1
  have h2 : zn T ≤ 24 := hI.1.2.1
  unfold fn_S_has
  rw [h1]
  exact hasG (by omega) σ
theorem Y_has {σ T : zS} (hI : zIv T) (hR : zRC σ T) (x : Int32) : fn_Y_has x σ = some (bi (decide (∃ j : Nat, j < zp T ∧ x = nI j)), σ) := by
  have h1 : σ.1 520 0 = nI (zp T) := hR.2.2.1.trans hI.1.2.2.2.2.1
  have h2 : zp T ≤ 16 := hI.1.2.2.2.2.2.1
  unfold fn_Y_has
  rw [h1]
  exact hasG (by omega) σ
theorem zL_1 (σ : zS) (k i : Nat) (v : Int64) : (zL σ k i v).1 = σ.1 := rfl
theorem zI_2 (σ : zS) (k i : Nat) (v : Int32) : (zI σ k i v).2 = σ.2 := rfl
theorem zF_2 (σ : zS) (k : Nat) (v : Int32) : (zF σ k v).2 = σ.2 := rfl
theorem zU_s {α : Type} (f : Nat → α) (k : Nat) (v : α) : zU f k v k = v := by
  have : Nat.beq k k = true := Nat.beq_refl k
  simp [zU, this]
theorem zU_n {α : Type} (f : Nat → α) {k j : Nat} (v : α) (h : j ≠ k) : zU f k v j = f j := by
  have : Nat.beq j k = false := by
    cases hb : Nat.beq j k with
    | false => rfl
    | true => exact absurd (Nat.eq_of_beq_eq_true hb) h
  simp [zU, this]
theorem zI_s (σ : zS) (k i : Nat) (v : Int32) : (zI σ k i v).1 k = upd (σ.1 k) i v := zU_s _ _ _
theorem zI_n (σ : zS) {k j : Nat} (i : Nat) (v : Int32) (h : j ≠ k) : (zI σ k i v).1 j = σ.1 j := zU_n _ _ h
theorem zF_s (σ : zS) (k : Nat) (v : Int32) : (zF σ k v).1 k = fun _ => v := zU_s _ _ _
theorem zF_n (σ : zS) {k j : Nat} (v : Int32) (h : j ≠ k) : (zF σ k v).1 j = σ.1 j := zU_n _ _ h
theorem zL_s (σ : zS) (k i : Nat) (v : Int64) : (zL σ k i v).2 k = vp_updL (σ.2 k) i v := zU_s _ _ _
theorem zL_n (σ : zS) {k j : Nat} (i : Nat) (v : Int64) (h : j ≠ k) : (zL σ k i v).2 j = σ.2 j := zU_n _ _ h
/-- promise 10 -/
theorem ok_culprit {σ τ : zS} (h : zRel σ τ) : zOK (fn_P_culprit σ) (fn_M_culprit τ) := by
  obtain ⟨-, -, -, -, -, -, -, -, -, -, -, -, -, -, -, -, -, -, -, -, r21, -⟩ := h.2
  refine zOK.same (r := τ.1 720 0) h ?_ rfl
  show some (σ.1 106 0, σ) = _
  rw [show σ.1 106 0 = τ.1 720 0 from r21]
/-- promise 13 -/
theorem ok_at {σ τ : zS} (h : zRel σ τ) (x : Int32) : zOK (fn_P_at x σ) (fn_M_at x τ) := by
  obtain ⟨hI, hR⟩ := id h
  obtain ⟨-, -, -, -, -, -, -, -, -, -, -, -, -, -, -, -, -, -, -, -, -, r22, r23, -⟩ := hR
  have hk : τ.1 723 0 = nI (zk (zc τ)) := hI.1.2.2.2.2.2.2.1
  have hk2 : zk (zc τ) ≤ 32 := hI.1.2.2.2.2.2.2.2
  have hs : σ.1 580 0 = nI (zk (zc τ)) := (show σ.1 580 0 = τ.1 723 0 from r22).trans hk
  unfold fn_P_at fn_M_at
  rw [hk, hs]
  rcases nIrange x (c := zk (zc τ)) (by omega) with h1 | ⟨j, hj, rfl⟩
  · refine zOK.same (r := -1) h ?_ ?_
    · by_cases h2 : x < 0
      · rw [if_pos h2]
      · rw [if_neg h2, if_neg (h1.resolve_left h2)]
    · by_cases h2 : x < 0
      · rw [if_pos h2]
      · rw [if_neg h2, if_neg (h1.resolve_left h2)]
  · rw [if_neg (nIn0 (by omega)), if_pos ((nIlt (by omega) (by omega)).mpr hj), if_neg (nIn0 (by omega)), if_pos ((nIlt (by omega) (by omega)).mpr hj), zgd_t (zin_n (by omega) (by omega)), zgd_t (zin_n (by omega) (by omega)), nIc (by omega)]
    refine zOK.same (r := τ.1 50 j) h ?_ rfl
    rw [show σ.1 25 j = τ.1 50 j from r23 j hj]
