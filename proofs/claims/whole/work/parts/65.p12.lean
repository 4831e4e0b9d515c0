/-! the law's loop -/
theorem zrun {f g : Option (Int32 × zS)} (h : zOK f g) {K : zS → zS → Option (Int32 × zS)} (hK : ∀ σ' τ', zRel σ' τ' → ∃ s1, K σ' τ' = some (1, s1)) : ∃ s1, zb f (fun r s => zb g (fun r2 s2 => if r = r2 then K s s2 else none)) = some (1, s1) := by
  obtain ⟨r, σ', τ', hf, hg, hr⟩ := h
  rw [hf, zb_s, hg, zb_s, if_pos rfl]
  exact hK σ' τ' hr
set_option maxRecDepth 100000 in
set_option maxHeartbeats 8000000 in
theorem law_loop (L : Nat) (xs : Nat → Int32) (hL : L ≤ 3584) : ∀ (n j : Nat) (σ τ : zS), zRel σ τ → j ≤ L → L + 7 ≤ j + 7 * n → ∃ s1, fn_L_law_18 L xs n (nI j) σ τ = some (1, s1) := by
  intro n
  induction n with
  | zero => intro j σ τ h hj hn; omega
  | succ n ih =>
    intro j σ τ h hj hn
    have e7 : (nI L - (7 : Int32)).toInt = (L : Int) - 7 := pk_sub_toInt (a := L) (b := 7) (by omega) (by omega)
    have ej : (nI j).toInt = (j : Int) := nI_toInt (by omega)
    have hc : (nI L - (7 : Int32) < nI j) ↔ L < j + 7 := by
      rw [Int32.lt_iff_toInt_lt, e7, ej]
      omega
    rw [fn_L_law_18]
    by_cases hlt : L < j + 7
    · rw [if_pos (hc.mpr hlt)]
      exact ⟨σ, rfl⟩
    · rw [if_neg (fun q => hlt (hc.mp q))]
      have hk : ∀ σ' τ', zRel σ' τ' → ∃ s1, fn_L_law_18 L xs n (nI (j + 7)) σ' τ' = some (1, s1) := fun σ' τ' h' => ih (j + 7) σ' τ' h' (by omega) (by omega)
      have h7 : nI j + (7 : Int32) = nI (j + 7) := nI_add j 7
      have g0 : ∀ e : Option (Int32 × zS), zgd (zin (nI j) L) e = e := fun e => zgd_t (zin_n (by omega) (by omega))
      have g1 : ∀ e : Option (Int32 × zS), zgd (zin (nI j + (1 : Int32)) L) e = e := fun e => by
        rw [show nI j + (1 : Int32) = nI (j + 1) from nI_add j 1]
        exact zgd_t (zin_n (by omega) (by omega))
      have g2 : ∀ e : Option (Int32 × zS), zgd (zin (nI j + (2 : Int32)) L) e = e := fun e => by
        rw [show nI j + (2 : Int32) = nI (j + 2) from nI_add j 2]
        exact zgd_t (zin_n (by omega) (by omega))
      have g3 : ∀ e : Option (Int32 × zS), zgd (zin (nI j + (3 : Int32)) L) e = e := fun e => by
        rw [show nI j + (3 : Int32) = nI (j + 3) from nI_add j 3]
        exact zgd_t (zin_n (by omega) (by omega))
      have g4 : ∀ e : Option (Int32 × zS), zgd (zin (nI j + (4 : Int32)) L) e = e := fun e => by
        rw [show nI j + (4 : Int32) = nI (j + 4) from nI_add j 4]
        exact zgd_t (zin_n (by omega) (by omega))
      have g5 : ∀ e : Option (Int32 × zS), zgd (zin (nI j + (5 : Int32)) L) e = e := fun e => by
        rw [show nI j + (5 : Int32) = nI (j + 5) from nI_add j 5]
        exact zgd_t (zin_n (by omega) (by omega))
      have g6 : ∀ e : Option (Int32 × zS), zgd (zin (nI j + (6 : Int32)) L) e = e := fun e => by
        rw [show nI j + (6 : Int32) = nI (j + 6) from nI_add j 6]
        exact zgd_t (zin_n (by omega) (by omega))
      simp only [g0, g1, g2, g3, g4, g5, g6, h7]
      by_cases c0 : xs (nI j).toNatClampNeg &&& 31 = 0
      · rw [if_pos c0]
        exact zrun (ok_source h _ _ _) hk
      · rw [if_neg c0]
        by_cases c1 : xs (nI j).toNatClampNeg &&& 31 = 1
        · rw [if_pos c1]
          by_cases hb : xs (nI j + 2).toNatClampNeg = 0
          · simp only [if_pos hb]
            exact zrun (ok_fetched h _ _) hk
          · simp only [if_neg hb]
            exact zrun (ok_fetched h _ _) hk
        · rw [if_neg c1]
          by_cases c2 : xs (nI j).toNatClampNeg &&& 31 = 2
          · rw [if_pos c2]
            exact zrun (ok_artefact h _ _ _ _ _) hk
          · rw [if_neg c2]
            by_cases c3 : xs (nI j).toNatClampNeg &&& 31 = 3
            · rw [if_pos c3]
              exact zrun (ok_uses h _ _) hk
            · rw [if_neg c3]
              by_cases c4 : xs (nI j).toNatClampNeg &&& 31 = 4
              · rw [if_pos c4]
                exact zrun (ok_needs h _ _) hk
              · rw [if_neg c4]
                by_cases c5 : xs (nI j).toNatClampNeg &&& 31 = 5
                · rw [if_pos c5]
                  exact zrun (ok_path h _ _ _) hk
                · rw [if_neg c5]
                  by_cases c6 : xs (nI j).toNatClampNeg &&& 31 = 6
                  · rw [if_pos c6]
                    exact zrun (ok_policy h _ _) hk
                  · rw [if_neg c6]
                    by_cases c7 : xs (nI j).toNatClampNeg &&& 31 = 7
                    · rw [if_pos c7]
                      exact zrun (ok_verdict h _) hk
                    · rw [if_neg c7]
                      by_cases c8 : xs (nI j).toNatClampNeg &&& 31 = 8
                      · rw [if_pos c8]
                        exact zrun (ok_culprit h) hk
                      · rw [if_neg c8]
                        by_cases c9 : xs (nI j).toNatClampNeg &&& 31 = 9
                        · rw [if_pos c9]
                          exact zrun (ok_breaks h _ _) hk
                        · rw [if_neg c9]
                          by_cases c10 : xs (nI j).toNatClampNeg &&& 31 = 10
                          · rw [if_pos c10]
                            exact zrun (ok_closure h _) hk
                          · rw [if_neg c10]
                            by_cases c11 : xs (nI j).toNatClampNeg &&& 31 = 11
                            · rw [if_pos c11]
                              exact zrun (ok_at h _) hk
                            · rw [if_neg c11]
                              by_cases c12 : xs (nI j).toNatClampNeg &&& 31 = 12
                              · rw [if_pos c12]
                                exact zrun (ok_holds h _ _) hk
                              · rw [if_neg c12]
                                by_cases c13 : xs (nI j).toNatClampNeg &&& 31 = 13
                                · rw [if_pos c13]
                                  exact zrun (ok_missing h _ _) hk
                                · rw [if_neg c13]
                                  by_cases c14 : xs (nI j).toNatClampNeg &&& 31 = 14
                                  · rw [if_pos c14]
                                    exact zrun (ok_rebuilt h _ _) hk
                                  · rw [if_neg c14]
                                    by_cases c15 : xs (nI j).toNatClampNeg &&& 31 = 15
                                    · rw [if_pos c15]
                                      exact zrun (ok_differ h _ _) hk
                                    · rw [if_neg c15]
                                      by_cases c16 : xs (nI j).toNatClampNeg &&& 31 = 16
                                      · rw [if_pos c16]
                                        exact zrun (ok_clash h _ _) hk
                                      · rw [if_neg c16]
                                        exact hk σ τ h
theorem zRel_0 : zRel zs0 zm0 := by
  refine ⟨⟨⟨rfl, by decide, rfl, by decide, rfl, by decide, rfl, by decide⟩, fun i hi => ⟨rfl, by show 0 ≤ 6; omega, rfl, by show 0 ≤ 6; omega, fun _ => ⟨rfl, rfl⟩⟩, fun i k hi hk => absurd hk (Nat.not_lt_zero k), fun i hi => ⟨Or.inr ⟨0, by omega, rfl⟩, ⟨0, by omega, rfl⟩, ⟨0, by omega, rfl⟩⟩, fun s hs => ⟨⟨0, by omega, rfl⟩, ⟨0, by omega, rfl⟩⟩, fun r hr => ⟨0, by omega, rfl⟩, fun i p hi hp _ => rfl⟩, ?_⟩
  exact ⟨rfl, rfl, rfl, rfl, rfl, rfl, rfl, rfl, rfl, rfl, rfl, rfl, rfl, fun j => rfl, rfl, rfl, rfl, rfl, rfl, rfl, rfl, rfl, fun k hk => absurd hk (Nat.not_lt_zero k), fun i k hi hk => absurd hi (Nat.not_lt_zero i)⟩
theorem pure_law (L : Nat) (xs : Nat → Int32) (hL : L ≤ 3584) : ∃ σ1 : zS, fn_L_law_18 L xs 600 0 zs0 zm0 = some (1, σ1) := law_loop L xs hL 600 0 zs0 zm0 zRel_0 (Nat.zero_le _) (by omega)
