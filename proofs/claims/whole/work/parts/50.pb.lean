/-! ===== Int32 by its bits: bt x i ===== -/
def bt (x : Int32) (i : Nat) : Bool := x.toBitVec.getLsbD i
theorem b_ext {x y : Int32} (h : ∀ i, i < 32 → bt x i = bt y i) : x = y := Int32.toBitVec_inj.mp (BitVec.eq_of_getLsbD_eq (fun i hi => h i hi))
theorem b_or (x y : Int32) (i : Nat) : bt (x ||| y) i = (bt x i || bt y i) := by unfold bt; rw [Int32.toBitVec_or, BitVec.getLsbD_or]
theorem b_and (x y : Int32) (i : Nat) : bt (x &&& y) i = (bt x i && bt y i) := by unfold bt; rw [Int32.toBitVec_and, BitVec.getLsbD_and]
theorem b_xor (x y : Int32) (i : Nat) : bt (x ^^^ y) i = (bt x i ^^ bt y i) := by unfold bt; rw [Int32.toBitVec_xor, BitVec.getLsbD_xor]
theorem b_big {x : Int32} {i : Nat} (h : 32 ≤ i) : bt x i = false := BitVec.getLsbD_of_ge _ _ h
theorem b_255 (i : Nat) : bt 255 i = decide (i < 8) := by
  rcases Nat.lt_or_ge i 32 with h | h
  · exact (by decide +kernel : ∀ i, i < 32 → bt 255 i = decide (i < 8)) i h
  · rw [b_big h, decide_eq_false (by omega)]
theorem b_65535 (i : Nat) : bt 65535 i = decide (i < 16) := by
  rcases Nat.lt_or_ge i 32 with h | h
  · exact (by decide +kernel : ∀ i, i < 32 → bt 65535 i = decide (i < 16)) i h
  · rw [b_big h, decide_eq_false (by omega)]
theorem b_m1 : ∀ i, i < 32 → bt (-1) i = true := by decide +kernel
theorem b_0 (i : Nat) : bt 0 i = false := BitVec.getLsbD_zero
theorem s_l : ∀ n, n < 32 → ((nI n &&& 31).toBitVec.smod 32).toNat = n := by decide +kernel
theorem s_u : ∀ n, n < 32 → (((nI n).toUInt32 &&& Int32.toUInt32 31).toBitVec % 32).toNat = n := by decide +kernel
theorem b_shl (n : Nat) (hn : n < 32) (x : Int32) {i : Nat} (hi : i < 32) : bt (x <<< (nI n &&& 31)) i = (decide (n ≤ i) && bt x (i - n)) := by
  unfold bt
  rw [Int32.toBitVec_shiftLeft]
  show (x.toBitVec <<< ((nI n &&& 31).toBitVec.smod 32).toNat).getLsbD i = _
  rw [s_l n hn, BitVec.getLsbD_shiftLeft]
  rcases Nat.lt_or_ge i n with h | h
  · simp [h, Nat.not_le.mpr h]
  · simp [hi, h, Nat.not_lt.mpr h]
theorem b_ushr (n : Nat) (hn : n < 32) (x : Int32) (i : Nat) : bt ((x.toUInt32 >>> ((nI n).toUInt32 &&& Int32.toUInt32 31)).toInt32) i = bt x (n + i) := by
  show (x.toUInt32 >>> ((nI n).toUInt32 &&& Int32.toUInt32 31)).toBitVec.getLsbD i = x.toUInt32.toBitVec.getLsbD (n + i)
  rw [UInt32.toBitVec_shiftRight]
  show (x.toUInt32.toBitVec >>> (((nI n).toUInt32 &&& Int32.toUInt32 31).toBitVec % 32).toNat).getLsbD i = _
  rw [s_u n hn, BitVec.getLsbD_ushiftRight]
theorem b_sshr (n : Nat) (hn : n < 32) (x : Int32) {i : Nat} (hi : i < 32) : bt (x >>> (nI n &&& 31)) i = if n + i < 32 then bt x (n + i) else bt x 31 := by
  unfold bt
  rw [Int32.toBitVec_shiftRight]
  show (x.toBitVec.sshiftRight ((nI n &&& 31).toBitVec.smod 32).toNat).getLsbD i = _
  rw [s_l n hn, BitVec.getLsbD_sshiftRight, BitVec.msb_eq_getLsbD_last]
  simp [hi]
/-! pure rows: guards, numbers, loops -/
theorem zgd_t {γ : Type} {b : Bool} {e : Option γ} (h : b = true) : zgd b e = e := by subst h; rfl
theorem zb_s {β γ : Type} (r : β) (σ : zS) (k : β → zS → Option γ) : zb (some (r, σ)) k = k r σ := rfl
theorem zst_e {γ : Type} (x : zS) (k : zS → Option γ) : zst x k = k x := rfl
theorem zin_n {j n : Nat} (h : j < n) (hn : n ≤ 5000) : zin (nI j) n = true := by
  unfold zin
  rw [nI_toInt (by omega)]
  exact decide_eq_true ⟨by omega, by omega⟩
theorem zbo_0 : zbo 0 = true := by decide
theorem zbo_1 : zbo 1 = true := by decide
theorem nI6 (i k : Nat) : (6 : Int32) * nI i + nI k = nI (6 * i + k) := by
  show nI 6 * nI i + nI k = _
  rw [pk_mul, nI_add]
theorem nI6' (i k : Nat) : nI i * (6 : Int32) + nI k = nI (6 * i + k) := by
  show nI i * nI 6 + nI k = _
  rw [pk_mul, nI_add, Nat.mul_comm]
theorem nI8 (i k : Nat) : (8 : Int32) * nI i + nI k = nI (8 * i + k) := by
  show nI 8 * nI i + nI k = _
  rw [pk_mul, nI_add]
theorem nI8' (i k : Nat) : nI i * (8 : Int32) + nI k = nI (8 * i + k) := by
  show nI i * nI 8 + nI k = _
  rw [pk_mul, nI_add, Nat.mul_comm]
theorem nIc {n : Nat} (h : n ≤ 5000) : (nI n).toNatClampNeg = n := nI_clamp (by omega)
theorem nIlt {a b : Nat} (ha : a ≤ 5000) (hb : b ≤ 5000) : (nI a < nI b) ↔ a < b := nI_ltI (by omega) (by omega)
theorem nIeq {a b : Nat} (ha : a ≤ 5000) (hb : b ≤ 5000) : (nI a = nI b) ↔ a = b := nI_eq (by omega) (by omega)
theorem nIm1 {n : Nat} (h : n ≤ 5000) : ¬ nI n = (-1 : Int32) := fun e => by
  have h1 : (nI n).toInt = (n : Int) := nI_toInt (by omega)
  rw [e] at h1
  have h2 : (-1 : Int32).toInt = -1 := by decide
  omega
theorem nIn0 {n : Nat} (h : n ≤ 5000) : ¬ nI n < 0 := nI_pos (by omega)
theorem m1n0 : (-1 : Int32) < 0 := by decide
/-- an int is below 0, or a number -/
theorem nIcase (x : Int32) : x < 0 ∨ ∃ j : Nat, j < 2 ^ 31 ∧ x = nI j := by
  by_cases h : x < 0
  · exact Or.inl h
  · exact Or.inr (nI_of h)
/-- in 0 .. c - 1, or not -/
theorem nIrange (x : Int32) {c : Nat} (hc : c ≤ 5000) : (x < 0 ∨ ¬ x < nI c) ∨ ∃ j : Nat, j < c ∧ x = nI j := by
  rcases nIcase x with h | ⟨j, hj, rfl⟩
  · exact Or.inl (Or.inl h)
  · by_cases hjc : j < c
    · exact Or.inr ⟨j, hjc, rfl⟩
    · exact Or.inl (Or.inr (fun h => hjc ((nI_ltI hj (by omega)).mp h)))
def zfst (P : Nat → Bool) : Nat → Nat → Option Nat
  | 0, _ => none
  | m + 1, k => bif P k then some k else zfst P m (k + 1)
def zany (P : Nat → Bool) : Nat → Nat → Bool
  | 0, _ => false
  | m + 1, k => P k || zany P m (k + 1)
def zall (P : Nat → Bool) : Nat → Nat → Bool
  | 0, _ => true
  | m + 1, k => P k && zall P m (k + 1)
def zith (P : Nat → Bool) : Nat → Nat → Nat → Option Nat
  | 0, _, _ => none
  | m + 1, k, i => bif P k then (match i with | 0 => some k | i + 1 => zith P m (k + 1) i) else zith P m (k + 1) i
def oI : Option Nat → Int32
  | none => -1
  | some j => nI j
def bi (b : Bool) : Int32 := bif b then 1 else 0
theorem zfst_in {P : Nat → Bool} : ∀ {m k j : Nat}, zfst P m k = some j → k ≤ j ∧ j < k + m ∧ P j = true
  | 0, k, j, h => by cases h
  | m + 1, k, j, h => by
    unfold zfst at h
    cases hp : P k with
    | true =>
      rw [hp] at h
      have e : k = j := Option.some.inj h
      subst e
      exact ⟨Nat.le_refl _, by omega, hp⟩
    | false =>
      rw [hp] at h
      obtain ⟨h1, h2, h3⟩ := zfst_in (P := P) (m := m) h
      exact ⟨by omega, by omega, h3⟩
theorem zfst_congr {P Q : Nat → Bool} : ∀ {m k : Nat}, (∀ j, k ≤ j → j < k + m → P j = Q j) → zfst P m k = zfst Q m k
  | 0, k, _ => rfl
  | m + 1, k, h => by
    unfold zfst
    rw [h k (Nat.le_refl _) (by omega), zfst_congr (m := m) (fun j h1 h2 => h j (by omega) (by omega))]
theorem zany_congr {P Q : Nat → Bool} : ∀ {m k : Nat}, (∀ j, k ≤ j → j < k + m → P j = Q j) → zany P m k = zany Q m k
  | 0, k, _ => rfl
  | m + 1, k, h => by
    unfold zany
    rw [h k (Nat.le_refl _) (by omega), zany_congr (m := m) (fun j h1 h2 => h j (by omega) (by omega))]
theorem zall_congr {P Q : Nat → Bool} : ∀ {m k : Nat}, (∀ j, k ≤ j → j < k + m → P j = Q j) → zall P m k = zall Q m k
  | 0, k, _ => rfl
  | m + 1, k, h => by
    unfold zall
    rw [h k (Nat.le_refl _) (by omega), zall_congr (m := m) (fun j h1 h2 => h j (by omega) (by omega))]
theorem zith_congr {P Q : Nat → Bool} : ∀ {m k i : Nat}, (∀ j, k ≤ j → j < k + m → P j = Q j) → zith P m k i = zith Q m k i
  | 0, k, i, _ => rfl
  | m + 1, k, i, h => by
    unfold zith
    rw [h k (Nat.le_refl _) (by omega)]
    cases Q k with
    | false => exact zith_congr (m := m) (fun j h1 h2 => h j (by omega) (by omega))
    | true =>
      cases i with
      | zero => rfl
      | succ i => exact zith_congr (m := m) (fun j h1 h2 => h j (by omega) (by omega))
/-- a loop that ends at the first place where P holds -/
theorem zl_fst {β : Type} (F : Nat → Nat → Option β) (c : Nat) (P : Nat → Bool) (r : Nat → Option β) (z : Option β)
    (h : ∀ n k, k ≤ c → F (n + 1) k = if k < c then (bif P k then r k else F n (k + 1)) else z) :
    ∀ m n k, k + m = c → m < n → F n k = match zfst P m k with | some j => r j | none => z := by
  intro m
  induction m with
  | zero =>
    intro n k hk hn
    obtain ⟨n, rfl⟩ : ∃ n', n = n' + 1 := ⟨n - 1, by omega⟩
    rw [h n k (by omega), if_neg (by omega)]
    rfl
  | succ m ih =>
    intro n k hk hn
    obtain ⟨n, rfl⟩ : ∃ n', n = n' + 1 := ⟨n - 1, by omega⟩
    rw [h n k (by omega), if_pos (by omega)]
    unfold zfst
    cases hp : P k with
    | true => rfl
    | false => exact ih n (k + 1) (by omega) (by omega)
/-- the same for 'is there one' -/
theorem zany_fst {P : Nat → Bool} {β : Type} (t f : β) : ∀ m k, (match zfst P m k with | some _ => t | none => f) = bif zany P m k then t else f := by
  intro m
  induction m with
  | zero => intro k; rfl
  | succ m ih =>
    intro k
    unfold zfst zany
    cases P k with
    | true => rfl
    | false => exact ih (k + 1)
/-- a loop that gathers 'is there one' -/
theorem zl_any {β : Type} (F : Nat → Bool → Nat → Option β) (c : Nat) (P : Nat → Bool) (z : Bool → Option β)
    (h : ∀ n b k, k ≤ c → F (n + 1) b k = if k < c then F n (b || P k) (k + 1) else z b) :
    ∀ m n b k, k + m = c → m < n → F n b k = z (b || zany P m k) := by
  intro m
  induction m with
  | zero =>
    intro n b k hk hn
    obtain ⟨n, rfl⟩ : ∃ n', n = n' + 1 := ⟨n - 1, by omega⟩
    rw [h n b k (by omega), if_neg (by omega)]
    unfold zany
    rw [Bool.or_false]
  | succ m ih =>
    intro n b k hk hn
    obtain ⟨n, rfl⟩ : ∃ n', n = n' + 1 := ⟨n - 1, by omega⟩
    rw [h n b k (by omega), if_pos (by omega), ih n _ (k + 1) (by omega) (by omega)]
    conv => rhs; unfold zany
    rw [Bool.or_assoc]
/-- a loop that gathers 'all', and ends when one fails -/
theorem zl_all {β : Type} (F : Nat → Bool → Nat → Option β) (c : Nat) (P : Nat → Bool) (z : Bool → Option β)
    (h : ∀ n b k, k ≤ c → F (n + 1) b k = if k < c then (bif b then F n (P k) (k + 1) else z false) else z b) :
    ∀ m n b k, k + m = c → m < n → F n b k = z (b && zall P m k) := by
  intro m
  induction m with
  | zero =>
    intro n b k hk hn
    obtain ⟨n, rfl⟩ : ∃ n', n = n' + 1 := ⟨n - 1, by omega⟩
    rw [h n b k (by omega), if_neg (by omega)]
    unfold zall
    rw [Bool.and_true]
  | succ m ih =>
    intro n b k hk hn
    obtain ⟨n, rfl⟩ : ∃ n', n = n' + 1 := ⟨n - 1, by omega⟩
    rw [h n b k (by omega), if_pos (by omega)]
    cases b with
    | false => rfl
    | true =>
      show F n (P k) (k + 1) = _
      rw [ih n _ (k + 1) (by omega) (by omega)]
      conv => rhs; unfold zall
      rw [Bool.true_and]
/-- a loop over 'all' that ends at the first one that fails -/
theorem zall_fst {P : Nat → Bool} {β : Type} (t f : β) : ∀ m k, (match zfst (fun j => !P j) m k with | some _ => f | none => t) = bif zall P m k then t else f := by
  intro m
  induction m with
  | zero => intro k; rfl
  | succ m ih =>
    intro k
    unfold zfst zall
    cases P k with
    | false => rfl
    | true => exact ih (k + 1)
theorem zall_iff {P : Nat → Bool} : ∀ {m k : Nat}, zall P m k = true ↔ ∀ j, k ≤ j → j < k + m → P j = true
  | 0, k => ⟨fun _ j h1 h2 => by omega, fun _ => rfl⟩
  | m + 1, k => by
    unfold zall
    rw [Bool.and_eq_true, zall_iff (m := m)]
    constructor
    · intro h j h1 h2
      by_cases e : j = k
      · subst e; exact h.1
      · exact h.2 j (by omega) (by omega)
    · intro h
      exact ⟨h k (Nat.le_refl _) (by omega), fun j h1 h2 => h j (by omega) (by omega)⟩
theorem zany_iff {P : Nat → Bool} : ∀ {m k : Nat}, zany P m k = true ↔ ∃ j, k ≤ j ∧ j < k + m ∧ P j = true
  | 0, k => ⟨fun h => (by cases h), fun ⟨j, h1, h2, _⟩ => (by omega)⟩
  | m + 1, k => by
    unfold zany
    rw [Bool.or_eq_true, zany_iff (m := m)]
    constructor
    · rintro (h | ⟨j, h1, h2, h3⟩)
      · exact ⟨k, Nat.le_refl _, by omega, h⟩
      · exact ⟨j, by omega, by omega, h3⟩
    · rintro ⟨j, h1, h2, h3⟩
      by_cases e : j = k
      · subst e; exact Or.inl h3
      · exact Or.inr ⟨j, by omega, by omega, h3⟩
