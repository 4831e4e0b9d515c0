/-! counting bits -/
theorem nx_and (a b : Nat) : nI a &&& nI b = nI (a &&& b) := by
  apply Int32.toBitVec_inj.1
  show BitVec.ofNat 32 a &&& BitVec.ofNat 32 b = BitVec.ofNat 32 (a &&& b)
  apply BitVec.eq_of_getLsbD_eq
  intro i hi
  simp [hi]
theorem nI_any (x : Int32) : ∃ k : Nat, k < 2 ^ 32 ∧ x = nI k := by
  refine ⟨x.toBitVec.toNat, x.toBitVec.isLt, ?_⟩
  apply Int32.toBitVec_inj.1
  show x.toBitVec = BitVec.ofNat 32 x.toBitVec.toNat
  simp
def bc1 (x : Int32) : Int32 := x - (zush x 1 &&& 1431655765)
def bc2 (x : Int32) : Int32 := (x &&& 858993459) + (zush x 2 &&& 858993459)
def bc3 (x : Int32) : Int32 := (x + zush x 4) &&& 252645135
def bc4 (x : Int32) : Int32 := x + zush x 8
def bc5 (x : Int32) : Int32 := x + zush x 16
def zbc (x : Int32) : Int32 := bc5 (bc4 (bc3 (bc2 (bc1 x)))) &&& 63
theorem Ig_bitCount (x : Int32) (σ : zS) : fn_Ig_bitCount x σ = some (zbc x, σ) := rfl
def bn1 (x : Nat) : Nat := x - (x / 2 &&& 1431655765)
def bn2 (x : Nat) : Nat := (x &&& 858993459) + (x / 4 &&& 858993459)
def bn3 (x : Nat) : Nat := (x + x / 16) &&& 252645135
def bn4 (x : Nat) : Nat := x + x / 256
def bn5 (x : Nat) : Nat := x + x / 65536
def zbn (x : Nat) : Nat := bn5 (bn4 (bn3 (bn2 (bn1 x)))) &&& 63
theorem ushN {n : Nat} (hn : n < 2 ^ 32) (s : Int32) (k : Nat) (hs : ((s.toUInt32 &&& Int32.toUInt32 31).toBitVec % 32).toNat = k) : zush (nI n) s = nI (n / 2 ^ k) := pk_ushrN hn s k hs
theorem bc_nat {x : Nat} (hx : x < 65536) : zbc (nI x) = nI (zbn x) := by
  have l1 : ∀ a b : Nat, a &&& b ≤ a := fun a b => Nat.and_le_left
  have e1 : bc1 (nI x) = nI (bn1 x) := by
    unfold bc1 bn1
    rw [ushN (by omega) 1 1 (by decide)]
    show nI x - (nI (x / 2) &&& nI 1431655765) = _
    rw [nx_and, pk_sub (by have := l1 (x / 2) 1431655765; omega)]
  have b1 : bn1 x < 65536 := by unfold bn1; omega
  have e2 : bc2 (nI (bn1 x)) = nI (bn2 (bn1 x)) := by
    unfold bc2 bn2
    rw [ushN (by omega) 2 2 (by decide)]
    show (nI (bn1 x) &&& nI 858993459) + (nI (bn1 x / 4) &&& nI 858993459) = _
    rw [nx_and, nx_and, nI_add]
  have b2 : bn2 (bn1 x) < 131072 := by
    unfold bn2
    have h1 := l1 (bn1 x) 858993459
    have h2 := l1 (bn1 x / 4) 858993459
    omega
  have e3 : bc3 (nI (bn2 (bn1 x))) = nI (bn3 (bn2 (bn1 x))) := by
    unfold bc3 bn3
    rw [ushN (by omega) 4 4 (by decide), nI_add]
    show nI (bn2 (bn1 x) + bn2 (bn1 x) / 16) &&& nI 252645135 = _
    rw [nx_and]
  have b3 : bn3 (bn2 (bn1 x)) < 262144 := by
    unfold bn3
    have h1 := l1 (bn2 (bn1 x) + bn2 (bn1 x) / 16) 252645135
    omega
  have e4 : bc4 (nI (bn3 (bn2 (bn1 x)))) = nI (bn4 (bn3 (bn2 (bn1 x)))) := by
    unfold bc4 bn4
    rw [ushN (by omega) 8 8 (by decide), nI_add]
  have b4 : bn4 (bn3 (bn2 (bn1 x))) < 524288 := by unfold bn4; omega
  have e5 : bc5 (nI (bn4 (bn3 (bn2 (bn1 x))))) = nI (bn5 (bn4 (bn3 (bn2 (bn1 x))))) := by
    unfold bc5 bn5
    rw [ushN (by omega) 16 16 (by decide), nI_add]
  unfold zbc zbn
  rw [e1, e2, e3, e4, e5]
  show nI _ &&& nI 63 = _
  rw [nx_and]
def chkL (h : Nat) : Nat → Bool
  | 0 => true
  | l + 1 => Nat.beq (zbn (256 * h + l)) (zbn ((256 * h + l) / 2) + (256 * h + l) % 2) && chkL h l
def chkH : Nat → Bool
  | 0 => true
  | h + 1 => chkL h 256 && chkH h
theorem chk_ok : chkH 256 = true := by decide +kernel
theorem chkL_use {h : Nat} : ∀ {m l : Nat}, chkL h m = true → l < m → zbn (256 * h + l) = zbn ((256 * h + l) / 2) + (256 * h + l) % 2
  | 0, l, _, hl => by omega
  | m + 1, l, hc, hl => by
    unfold chkL at hc
    rw [Bool.and_eq_true] at hc
    by_cases e : l = m
    · subst e; exact Nat.eq_of_beq_eq_true hc.1
    · exact chkL_use (m := m) hc.2 (by omega)
theorem chkH_use : ∀ {m h l : Nat}, chkH m = true → h < m → l < 256 → zbn (256 * h + l) = zbn ((256 * h + l) / 2) + (256 * h + l) % 2
  | 0, h, l, _, hh, _ => by omega
  | m + 1, h, l, hc, hh, hl => by
    unfold chkH at hc
    rw [Bool.and_eq_true] at hc
    by_cases e : h = m
    · subst e; exact chkL_use hc.1 hl
    · exact chkH_use (m := m) hc.2 (by omega) hl
theorem zbn_step {x : Nat} (hx : x < 65536) : zbn x = zbn (x / 2) + x % 2 := by
  have h := chkH_use chk_ok (h := x / 256) (l := x % 256) (by omega) (by omega)
  rw [show 256 * (x / 256) + x % 256 = x by omega] at h
  exact h
def zpop : Nat → Nat → Nat
  | 0, _ => 0
  | k + 1, x => zpop k (x / 2) + x % 2
theorem zbn_pop : ∀ {k x : Nat}, k ≤ 16 → x < 2 ^ k → zbn x = zpop k x
  | 0, x, _, hx => by
    have : x = 0 := by simpa using hx
    subst this
    decide
  | k + 1, x, hk, hx => by
    have h16 : (2 : Nat) ^ (k + 1) ≤ 65536 := by
      have : (2 : Nat) ^ (k + 1) ≤ 2 ^ 16 := Nat.pow_le_pow_right (by omega) hk
      simpa using this
    rw [zbn_step (by omega)]
    unfold zpop
    rw [zbn_pop (k := k) (by omega) (by rw [Nat.pow_succ] at hx; omega)]
theorem bt_nI {y k : Nat} (hk : k < 32) : bt (nI y) k = decide (y / 2 ^ k % 2 = 1) := by
  show (BitVec.ofNat 32 y).getLsbD k = _
  rw [BitVec.getLsbD_ofNat]
  simp [hk, Nat.testBit_eq_decide_div_mod_eq]
theorem bt_xm (z : Int32) {k : Nat} (hk : k < 32) : bt (z ^^^ (-1)) k = !bt z k := by
  rw [b_xor, b_m1 k hk]
  cases bt z k <;> rfl
/-- the reviews without the author's own -/
theorem mask_nat {rv a : Nat} (hr : rv < 65536) (ha : a ≤ 15) : ∃ x : Nat, x < 65536 ∧ nI rv &&& (zshl 1 (nI a) ^^^ (-1)) = nI x ∧ ∀ k, k < 16 → x / 2 ^ k % 2 = if k = a then 0 else rv / 2 ^ k % 2 := by
  obtain ⟨y, -, ey⟩ := nI_any (zshl 1 (nI a) ^^^ (-1))
  refine ⟨rv &&& y, Nat.lt_of_le_of_lt Nat.and_le_left hr, by rw [ey, nx_and], fun k hk => ?_⟩
  have h1 : bt (nI (rv &&& y)) k = (bt (nI rv) k && !decide (a = k)) := by
    rw [← nx_and, ← ey, b_and, bt_xm _ (by omega), bt_shl (by omega) (by omega)]
  rw [bt_nI (by omega), bt_nI (by omega)] at h1
  by_cases e : k = a
  · subst e
    rw [if_pos rfl]
    rw [decide_eq_true (rfl : k = k)] at h1
    simp at h1
    omega
  · rw [if_neg e]
    rw [decide_eq_false (show ¬ a = k from fun q => e q.symm)] at h1
    simp at h1
    omega
theorem M_others {τ : zS} {s a rv : Nat} (hs : s < 24) (ha : a ≤ 15) (hr : rv < 65536) (e : τ.1 33 s = nI rv) : fn_M_others (nI s) (nI a) τ = some (zbc (nI rv &&& (zshl 1 (nI a) ^^^ (-1))), τ) := by
  obtain ⟨x, hx, ex, hb⟩ := mask_nat hr ha
  rw [ex, bc_nat hx, zbn_pop (k := 16) (by omega) (by simpa using hx)]
  have key : ∀ m n acc k : Nat, k + m = 16 → m < n → fn_M_others_5 n (nI s) (nI a) (nI acc) (nI k) τ = some (nI (acc + zpop m (x / 2 ^ k)), τ) := by
    intro m
    induction m with
    | zero =>
      intro n acc k hk hn
      obtain ⟨n, rfl⟩ : ∃ n', n = n' + 1 := ⟨n - 1, by omega⟩
      have h16 : ¬ nI k < (16 : Int32) := fun q => by have := (nIlt (b := 16) (show k ≤ 5000 by omega) (by omega)).mp q; omega
      rw [fn_M_others_5, if_neg h16]
      rfl
    | succ m ih =>
      intro n acc k hk hn
      obtain ⟨n, rfl⟩ : ∃ n', n = n' + 1 := ⟨n - 1, by omega⟩
      have h16 : nI k < (16 : Int32) := (nIlt (b := 16) (by omega) (by omega)).mpr (by omega)
      have hd : x / 2 ^ k / 2 = x / 2 ^ (k + 1) := by rw [Nat.div_div_eq_div_mul, Nat.pow_succ]
      rw [fn_M_others_5, if_pos h16, nI_1]
      unfold zpop
      rw [hd, hb k (by omega)]
      by_cases ek : k = a
      · rw [if_pos (show nI k = nI a by rw [ek]), if_pos ek]
        have h0 : nI acc + (0 : Int32) = nI acc := by
          show nI acc + nI 0 = _
          rw [nI_add, Nat.add_zero]
        rw [h0, ih n acc (k + 1) (by omega) (by omega)]
        rfl
      · rw [if_neg (fun q => ek ((nIeq (by omega) (by omega)).mp q)), if_neg ek, zgd_t (zin_n hs (by omega)), nIc (show s ≤ 5000 by omega), e]
        have h1 : zshr (nI rv) (nI k) &&& (1 : Int32) = nI (rv / 2 ^ k % 2) := by
          unfold zshr
          rw [pk_shrN (by omega) (nI k &&& 31) k (s_l k (by omega))]
          show nI (rv / 2 ^ k) &&& nI 1 = _
          rw [nx_and, Nat.and_one_is_mod]
        rw [h1, nI_add, ih n (acc + rv / 2 ^ k % 2) (k + 1) (by omega) (by omega)]
        congr 2
        congr 1
        omega
  have := key 16 100 0 0 (by omega) (by omega)
  rw [Nat.pow_zero, Nat.div_one, Nat.zero_add] at this
  exact this
