def fn_W_sameAsSets_n_19 : Nat → Int32 → Int32 → Int32 → zS → Option (Int32 × zS)
  | 0, _, _, _, _ => none
  | n + 1, x1, x2, x3, σ => zgd (zin x1 32) (if x3 < (σ.1 16 x1.toNatClampNeg) then zb (fn_W_valueAt_n x1 x3 σ) (fun r34 s34 => zb (fn_W_contains_n x2 r34 s34) (fun r37 s37 => if r37 = 0 then some ((0 : Int32), s37) else fn_W_sameAsSets_n_19 n x1 x2 (x3 + 1) s37)) else some ((1 : Int32), σ))
set_option maxRecDepth 100000 in
set_option maxHeartbeats 4000000 in
theorem bk_W_sameAsSets_n_19 (l : Launch) (D : va_G) (ad : Nat → Nat) (ca : Nat → ClassId) {V : zV Int32} {ex : va_W} (hX : zIs V l b_W_sameAsSets R_W zTT (zKK D ca) D zcl (zty ca) 4 (zrm 2 46)) (hR : zRz V b_W_sameAsSets (zwC ad ca) ex) : ∀ (n : Nat) (x1 : Int32) (x2 : Int32) (x3 : Int32) (σ : zS), zJ V (fn_W_sameAsSets_n_19 n x1 x2 x3 σ) (zwC ad ca σ ++ ex) 19 [(0, .ref (ad 15)), (1, .int x1), (2, .int x2), (3, .int x3)] [] := by
  intro n
  induction n with
  | zero => intros; exact z_none
  | succ n ih =>
    intro x1 x2 x3 σ
    show zJ V (zgd (zin x1 32) (if x3 < (σ.1 16 x1.toNatClampNeg) then zb (fn_W_valueAt_n x1 x3 σ) (fun r34 s34 => zb (fn_W_contains_n x2 r34 s34) (fun r37 s37 => if r37 = 0 then some ((0 : Int32), s37) else fn_W_sameAsSets_n_19 n x1 x2 (x3 + 1) s37)) else some ((1 : Int32), σ))) _ _ _ _
    refine z_iload_n (i := 3) hX d_W_sameAsSets_19 rfl rfl ?_
    refine z_aload_n (i := 0) hX d_W_sameAsSets_20 rfl rfl ?_
    refine z_get (C := R_W) (T := F_W) (N := 2) hX in_W 15 rfl rfl 0 (by decide) w_field_W_9_W_0 rfl d_W_sameAsSets_21 ?_
    refine z_iload_n (i := 1) hX d_W_sameAsSets_24 rfl rfl ?_
    refine z_iald hX 16 11 rfl rfl d_W_sameAsSets_25 ?_
    refine z_icmp_ge (tgt := 51) hX d_W_sameAsSets_26 (by decide) (fun c26 => ?_) (fun c26 => ?_)
    · refine z_aload_n (i := 0) hX d_W_sameAsSets_29 rfl rfl ?_
      refine z_iload_n (i := 2) hX d_W_sameAsSets_30 rfl rfl ?_
      refine z_aload_n (i := 0) hX d_W_sameAsSets_31 rfl rfl ?_
      refine z_iload_n (i := 1) hX d_W_sameAsSets_32 rfl rfl ?_
      refine z_iload_n (i := 3) hX d_W_sameAsSets_33 rfl rfl ?_
      refine z_callVl (wl := zwC ad ca) (C := R_W) (n := 2) (rest := [.int x2, .ref (ad 15)]) hX [.int x1, .int x3] (ct_W_valueAt_n l D ad ca x1 x3 σ) gV_W_23 ⟨rfl, rfl⟩ ⟨by decide, by decide⟩ (by decide +kernel) rfl 15 rfl rfl rfl rfl (Nat.le_of_ble_eq_true rfl) d_W_sameAsSets_34 (fun r34 s34 => ?_)
      refine z_callVi (wl := zwC ad ca) (C := R_W) (n := 2) (rest := []) hX [.int x2, .long r34] (ct_W_contains_n l D ad ca x2 r34 s34) gV_W_19 ⟨rfl, rfl⟩ ⟨by decide, by decide⟩ (by decide +kernel) rfl 15 rfl rfl rfl rfl (Nat.le_of_ble_eq_true rfl) d_W_sameAsSets_37 (fun r37 s37 => ?_)
      refine z_if_ne (tgt := 45) hX d_W_sameAsSets_40 (by decide) (fun c40 => ?_) (fun c40 => ?_)
      · refine z_iconst (v := 0) hX d_W_sameAsSets_43 (by decide) ?_
        exact z_zret hR rfl d_W_sameAsSets_44
      · refine z_iinc (v := x3 + 1) (lv2 := [(3, .int (x3 + 1)), (0, .ref (ad 15)), (1, .int x1), (2, .int x2)]) hX d_W_sameAsSets_45 3 rfl (by first | rfl | decide) (by decide) rfl ?_
        refine z_goto (tgt := 19) hX d_W_sameAsSets_48 (by decide) ?_
        refine z_lv hX [1, 2, 3, 0] (lv2 := [(0, .ref (ad 15)), (1, .int x1), (2, .int x2), (3, .int (x3 + 1))]) rfl ?_
        exact ih _ _ _ _
    · refine z_iconst (v := 1) hX d_W_sameAsSets_51 (by decide) ?_
      exact z_zret hR rfl d_W_sameAsSets_52
def fn_W_sameAsSets_n (x1 : Int32) (x2 : Int32) (σ : zS) : Option (Int32 × zS) := zgd (zin x1 32) (zgd (zin x2 32) (if (σ.1 16 x1.toNatClampNeg) = (σ.1 16 x2.toNatClampNeg) then fn_W_sameAsSets_n_19 100 x1 x2 (0 : Int32) σ else some ((0 : Int32), σ)))
set_option maxRecDepth 100000 in
set_option maxHeartbeats 4000000 in
theorem ct_W_sameAsSets_n (l : Launch) (D : va_G) (ad : Nat → Nat) (ca : Nat → ClassId) (x1 : Int32) (x2 : Int32) (σ : zS) : zC zemI l y_W_sameAsSets (Cond.code y_W_sameAsSets b_W_sameAsSets 4 (some .boolean) :: zTT) (zrm 2 46) D zcl (zKK D ca) (zwC ad ca) σ [.ref (ad 15), .int x1, .int x2] (fn_W_sameAsSets_n x1 x2 σ) := by
  refine zmk_z (tys := zty ca) (by decide) (zKK_m D ca) (fun _ h => h.1) (Nat.le_of_ble_eq_true rfl) (fun V ex hX hR => ?_)
  show zJ V (zgd (zin x1 32) (zgd (zin x2 32) (if (σ.1 16 x1.toNatClampNeg) = (σ.1 16 x2.toNatClampNeg) then fn_W_sameAsSets_n_19 100 x1 x2 (0 : Int32) σ else some ((0 : Int32), σ)))) (zwC ad ca σ ++ ex) 0 [(0, .ref (ad 15)), (1, .int x1), (2, .int x2)] []
  refine z_aload_n (i := 0) hX d_W_sameAsSets_0 rfl rfl ?_
  refine z_get (C := R_W) (T := F_W) (N := 2) hX in_W 15 rfl rfl 0 (by decide) w_field_W_9_W_0 rfl d_W_sameAsSets_1 ?_
  refine z_iload_n (i := 1) hX d_W_sameAsSets_4 rfl rfl ?_
  refine z_iald hX 16 11 rfl rfl d_W_sameAsSets_5 ?_
  refine z_aload_n (i := 0) hX d_W_sameAsSets_6 rfl rfl ?_
  refine z_get (C := R_W) (T := F_W) (N := 2) hX in_W 15 rfl rfl 0 (by decide) w_field_W_9_W_0 rfl d_W_sameAsSets_7 ?_
  refine z_iload_n (i := 2) hX d_W_sameAsSets_10 rfl rfl ?_
  refine z_iald hX 16 11 rfl rfl d_W_sameAsSets_11 ?_
  refine z_icmp_eq (tgt := 17) hX d_W_sameAsSets_12 (by decide) (fun c12 => ?_) (fun c12 => ?_)
  · refine z_iconst (v := 0) hX d_W_sameAsSets_17 (by decide) ?_
    refine z_istore_n (i := 3) (lv2 := [(3, .int (0 : Int32)), (0, .ref (ad 15)), (1, .int x1), (2, .int x2)]) hX d_W_sameAsSets_18 rfl (by decide) rfl ?_
    refine z_lv hX [1, 2, 3, 0] (lv2 := [(0, .ref (ad 15)), (1, .int x1), (2, .int x2), (3, .int (0 : Int32))]) rfl ?_
    exact bk_W_sameAsSets_n_19 l D ad ca hX hR 100 _ _ _ _
  · refine z_iconst (v := 0) hX d_W_sameAsSets_15 (by decide) ?_
    exact z_zret hR rfl d_W_sameAsSets_16
def fn_P_differ_224 (y0 : Int32) (y1 : Int32) (σ : zS) : Option (Int32 × zS) := zb (fn_P_bitIf y0 (6 : Int32) σ) (fun r226 s226 => some (y1 ||| r226, s226))
set_option maxRecDepth 100000 in
set_option maxHeartbeats 4000000 in
theorem bk_P_differ_224 (l : Launch) (D : va_G) (ad : Nat → Nat) (ca : Nat → ClassId) {V : zV Int32} {ex : va_W} (hX : zIs V l b_P_differ R_P zTT (zKK D ca) D zcl (zty ca) 3 (zrm 3 69)) (hR : zRi V b_P_differ (zwC ad ca) ex) : ∀ (y0 : Int32) (y1 : Int32) (σ : zS), zJ V (fn_P_differ_224 y0 y1 σ) (zwC ad ca σ ++ ex) 224 [] [.int y0, .int y1] := by
  intro y0 y1 σ
  show zJ V (zb (fn_P_bitIf y0 (6 : Int32) σ) (fun r226 s226 => some (y1 ||| r226, s226))) _ _ _ _
  refine z_bipush (v := 6) hX d_P_differ_224 (by decide) ?_
  refine z_callSi (wl := zwC ad ca) (n := 2) (rest := [.int y1]) hX [.int y0, .int (6 : Int32)] (ct_P_bitIf l D ca (zwC ad ca) y0 (6 : Int32) σ) gS_P_119 ⟨rfl, rfl⟩ ⟨by decide, by decide⟩ (by decide +kernel) rfl rfl (Nat.le_of_ble_eq_true rfl) d_P_differ_226 (fun r226 s226 => ?_)
  refine z_ior hX d_P_differ_229 ?_
  exact z_iret hR d_P_differ_230
def fn_P_differ_199 (x1 : Int32) (x2 : Int32) (y0 : Int32) (y1 : Int32) (σ : zS) : Option (Int32 × zS) := zb (fn_P_bitIf y0 (5 : Int32) σ) (fun r200 s200 => zb (fn_W_sameAsSets_n x1 x2 s200) (fun r213 s213 => if r213 = 0 then fn_P_differ_224 (1 : Int32) (y1 ||| r200) s213 else fn_P_differ_224 (0 : Int32) (y1 ||| r200) s213))
set_option maxRecDepth 100000 in
set_option maxHeartbeats 4000000 in
theorem bk_P_differ_199 (l : Launch) (D : va_G) (ad : Nat → Nat) (ca : Nat → ClassId) {V : zV Int32} {ex : va_W} (hX : zIs V l b_P_differ R_P zTT (zKK D ca) D zcl (zty ca) 3 (zrm 3 69)) (hR : zRi V b_P_differ (zwC ad ca) ex) : ∀ (x1 : Int32) (x2 : Int32) (y0 : Int32) (y1 : Int32) (σ : zS), zJ V (fn_P_differ_199 x1 x2 y0 y1 σ) (zwC ad ca σ ++ ex) 199 [(0, .ref (ad 0)), (1, .int x1), (2, .int x2)] [.int y0, .int y1] := by
  intro x1 x2 y0 y1 σ
  show zJ V (zb (fn_P_bitIf y0 (5 : Int32) σ) (fun r200 s200 => zb (fn_W_sameAsSets_n x1 x2 s200) (fun r213 s213 => if r213 = 0 then fn_P_differ_224 (1 : Int32) (y1 ||| r200) s213 else fn_P_differ_224 (0 : Int32) (y1 ||| r200) s213))) _ _ _ _
  refine z_iconst (v := 5) hX d_P_differ_199 (by decide) ?_
  refine z_callSi (wl := zwC ad ca) (n := 2) (rest := [.int y1]) hX [.int y0, .int (5 : Int32)] (ct_P_bitIf l D ca (zwC ad ca) y0 (5 : Int32) σ) gS_P_119 ⟨rfl, rfl⟩ ⟨by decide, by decide⟩ (by decide +kernel) rfl rfl (Nat.le_of_ble_eq_true rfl) d_P_differ_200 (fun r200 s200 => ?_)
  refine z_ior hX d_P_differ_203 ?_
  refine z_aload_n (i := 0) hX d_P_differ_204 rfl rfl ?_
  refine z_get (C := R_P) (T := F_P) (N := 7) hX in_P 0 rfl rfl 1 (by decide) w_field_P_19_P_1 rfl d_P_differ_205 ?_
  refine z_get (C := R_A) (T := F_A) (N := 11) hX in_A 6 rfl rfl 7 (by decide) w_field_P_142_A_7 rfl d_P_differ_208 ?_
  refine z_iload_n (i := 1) hX d_P_differ_211 rfl rfl ?_
  refine z_iload_n (i := 2) hX d_P_differ_212 rfl rfl ?_
  refine z_callVi (wl := zwC ad ca) (C := R_W) (n := 2) (rest := [.int (y1 ||| r200)]) hX [.int x1, .int x2] (ct_W_sameAsSets_n l D ad ca x1 x2 s200) gV_P_139 ⟨rfl, rfl⟩ ⟨by decide, by decide⟩ (by decide +kernel) rfl 15 rfl rfl rfl rfl (Nat.le_of_ble_eq_true rfl) d_P_differ_213 (fun r213 s213 => ?_)
  refine z_if_ne (tgt := 223) hX d_P_differ_216 (by decide) (fun c216 => ?_) (fun c216 => ?_)
  · refine z_iconst (v := 1) hX d_P_differ_219 (by decide) ?_
    refine z_goto (tgt := 224) hX d_P_differ_220 (by decide) ?_
    refine z_lv hX [] (lv2 := []) rfl ?_
    exact bk_P_differ_224 l D ad ca hX hR _ _ _
  · refine z_iconst (v := 0) hX d_P_differ_223 (by decide) ?_
    refine z_lv hX [] (lv2 := []) rfl ?_
    exact bk_P_differ_224 l D ad ca hX hR _ _ _
def fn_P_differ_174 (x1 : Int32) (x2 : Int32) (y0 : Int32) (y1 : Int32) (σ : zS) : Option (Int32 × zS) := zb (fn_P_bitIf y0 (4 : Int32) σ) (fun r175 s175 => zb (fn_W_sameAsSets_u x1 x2 s175) (fun r188 s188 => if r188 = 0 then fn_P_differ_199 x1 x2 (1 : Int32) (y1 ||| r175) s188 else fn_P_differ_199 x1 x2 (0 : Int32) (y1 ||| r175) s188))
set_option maxRecDepth 100000 in
set_option maxHeartbeats 4000000 in
theorem bk_P_differ_174 (l : Launch) (D : va_G) (ad : Nat → Nat) (ca : Nat → ClassId) {V : zV Int32} {ex : va_W} (hX : zIs V l b_P_differ R_P zTT (zKK D ca) D zcl (zty ca) 3 (zrm 3 69)) (hR : zRi V b_P_differ (zwC ad ca) ex) : ∀ (x1 : Int32) (x2 : Int32) (y0 : Int32) (y1 : Int32) (σ : zS), zJ V (fn_P_differ_174 x1 x2 y0 y1 σ) (zwC ad ca σ ++ ex) 174 [(0, .ref (ad 0)), (1, .int x1), (2, .int x2)] [.int y0, .int y1] := by
  intro x1 x2 y0 y1 σ
  show zJ V (zb (fn_P_bitIf y0 (4 : Int32) σ) (fun r175 s175 => zb (fn_W_sameAsSets_u x1 x2 s175) (fun r188 s188 => if r188 = 0 then fn_P_differ_199 x1 x2 (1 : Int32) (y1 ||| r175) s188 else fn_P_differ_199 x1 x2 (0 : Int32) (y1 ||| r175) s188))) _ _ _ _
  refine z_iconst (v := 4) hX d_P_differ_174 (by decide) ?_
  refine z_callSi (wl := zwC ad ca) (n := 2) (rest := [.int y1]) hX [.int y0, .int (4 : Int32)] (ct_P_bitIf l D ca (zwC ad ca) y0 (4 : Int32) σ) gS_P_119 ⟨rfl, rfl⟩ ⟨by decide, by decide⟩ (by decide +kernel) rfl rfl (Nat.le_of_ble_eq_true rfl) d_P_differ_175 (fun r175 s175 => ?_)
  refine z_ior hX d_P_differ_178 ?_
  refine z_aload_n (i := 0) hX d_P_differ_179 rfl rfl ?_
  refine z_get (C := R_P) (T := F_P) (N := 7) hX in_P 0 rfl rfl 1 (by decide) w_field_P_19_P_1 rfl d_P_differ_180 ?_
  refine z_get (C := R_A) (T := F_A) (N := 11) hX in_A 6 rfl rfl 6 (by decide) w_field_P_69_A_6 rfl d_P_differ_183 ?_
  refine z_iload_n (i := 1) hX d_P_differ_186 rfl rfl ?_
  refine z_iload_n (i := 2) hX d_P_differ_187 rfl rfl ?_
  refine z_callVi (wl := zwC ad ca) (C := R_W) (n := 2) (rest := [.int (y1 ||| r175)]) hX [.int x1, .int x2] (ct_W_sameAsSets_u l D ad ca x1 x2 s175) gV_P_139 ⟨rfl, rfl⟩ ⟨by decide, by decide⟩ (by decide +kernel) rfl 12 rfl rfl rfl rfl (Nat.le_of_ble_eq_true rfl) d_P_differ_188 (fun r188 s188 => ?_)
  refine z_if_ne (tgt := 198) hX d_P_differ_191 (by decide) (fun c191 => ?_) (fun c191 => ?_)
  · refine z_iconst (v := 1) hX d_P_differ_194 (by decide) ?_
    refine z_goto (tgt := 199) hX d_P_differ_195 (by decide) ?_
    exact bk_P_differ_199 l D ad ca hX hR _ _ _ _ _
  · refine z_iconst (v := 0) hX d_P_differ_198 (by decide) ?_
    exact bk_P_differ_199 l D ad ca hX hR _ _ _ _ _
def fn_P_differ_143 (x1 : Int32) (x2 : Int32) (y0 : Int32) (y1 : Int32) (σ : zS) : Option (Int32 × zS) := zb (fn_P_bitIf y0 (3 : Int32) σ) (fun r144 s144 => zgd (zin x1 32) (zgd (zin x2 32) (if (s144.1 11 x1.toNatClampNeg) = (s144.1 11 x2.toNatClampNeg) then fn_P_differ_174 x1 x2 (0 : Int32) (y1 ||| r144) s144 else fn_P_differ_174 x1 x2 (1 : Int32) (y1 ||| r144) s144)))
set_option maxRecDepth 100000 in
set_option maxHeartbeats 4000000 in
theorem bk_P_differ_143 (l : Launch) (D : va_G) (ad : Nat → Nat) (ca : Nat → ClassId) {V : zV Int32} {ex : va_W} (hX : zIs V l b_P_differ R_P zTT (zKK D ca) D zcl (zty ca) 3 (zrm 3 69)) (hR : zRi V b_P_differ (zwC ad ca) ex) : ∀ (x1 : Int32) (x2 : Int32) (y0 : Int32) (y1 : Int32) (σ : zS), zJ V (fn_P_differ_143 x1 x2 y0 y1 σ) (zwC ad ca σ ++ ex) 143 [(0, .ref (ad 0)), (1, .int x1), (2, .int x2)] [.int y0, .int y1] := by
  intro x1 x2 y0 y1 σ
  show zJ V (zb (fn_P_bitIf y0 (3 : Int32) σ) (fun r144 s144 => zgd (zin x1 32) (zgd (zin x2 32) (if (s144.1 11 x1.toNatClampNeg) = (s144.1 11 x2.toNatClampNeg) then fn_P_differ_174 x1 x2 (0 : Int32) (y1 ||| r144) s144 else fn_P_differ_174 x1 x2 (1 : Int32) (y1 ||| r144) s144)))) _ _ _ _
  refine z_iconst (v := 3) hX d_P_differ_143 (by decide) ?_
  refine z_callSi (wl := zwC ad ca) (n := 2) (rest := [.int y1]) hX [.int y0, .int (3 : Int32)] (ct_P_bitIf l D ca (zwC ad ca) y0 (3 : Int32) σ) gS_P_119 ⟨rfl, rfl⟩ ⟨by decide, by decide⟩ (by decide +kernel) rfl rfl (Nat.le_of_ble_eq_true rfl) d_P_differ_144 (fun r144 s144 => ?_)
  refine z_ior hX d_P_differ_147 ?_
  refine z_aload_n (i := 0) hX d_P_differ_148 rfl rfl ?_
  refine z_get (C := R_P) (T := F_P) (N := 7) hX in_P 0 rfl rfl 1 (by decide) w_field_P_19_P_1 rfl d_P_differ_149 ?_
  refine z_get (C := R_A) (T := F_A) (N := 11) hX in_A 6 rfl rfl 5 (by decide) w_field_P_136_A_5 rfl d_P_differ_152 ?_
  refine z_iload_n (i := 1) hX d_P_differ_155 rfl rfl ?_
  refine z_iald hX 11 8 rfl rfl d_P_differ_156 ?_
  refine z_aload_n (i := 0) hX d_P_differ_157 rfl rfl ?_
  refine z_get (C := R_P) (T := F_P) (N := 7) hX in_P 0 rfl rfl 1 (by decide) w_field_P_19_P_1 rfl d_P_differ_158 ?_
  refine z_get (C := R_A) (T := F_A) (N := 11) hX in_A 6 rfl rfl 5 (by decide) w_field_P_136_A_5 rfl d_P_differ_161 ?_
  refine z_iload_n (i := 2) hX d_P_differ_164 rfl rfl ?_
  refine z_iald hX 11 8 rfl rfl d_P_differ_165 ?_
  refine z_icmp_eq (tgt := 173) hX d_P_differ_166 (by decide) (fun c166 => ?_) (fun c166 => ?_)
  · refine z_iconst (v := 0) hX d_P_differ_173 (by decide) ?_
    exact bk_P_differ_174 l D ad ca hX hR _ _ _ _ _
  · refine z_iconst (v := 1) hX d_P_differ_169 (by decide) ?_
    refine z_goto (tgt := 174) hX d_P_differ_170 (by decide) ?_
    exact bk_P_differ_174 l D ad ca hX hR _ _ _ _ _
def fn_P_differ_112 (x1 : Int32) (x2 : Int32) (y0 : Int32) (y1 : Int32) (σ : zS) : Option (Int32 × zS) := zb (fn_P_bitIf y0 (2 : Int32) σ) (fun r113 s113 => zgd (zin x1 32) (zgd (zin x2 32) (if (s113.1 10 x1.toNatClampNeg) = (s113.1 10 x2.toNatClampNeg) then fn_P_differ_143 x1 x2 (0 : Int32) (y1 ||| r113) s113 else fn_P_differ_143 x1 x2 (1 : Int32) (y1 ||| r113) s113)))
set_option maxRecDepth 100000 in
set_option maxHeartbeats 4000000 in
theorem bk_P_differ_112 (l : Launch) (D : va_G) (ad : Nat → Nat) (ca : Nat → ClassId) {V : zV Int32} {ex : va_W} (hX : zIs V l b_P_differ R_P zTT (zKK D ca) D zcl (zty ca) 3 (zrm 3 69)) (hR : zRi V b_P_differ (zwC ad ca) ex) : ∀ (x1 : Int32) (x2 : Int32) (y0 : Int32) (y1 : Int32) (σ : zS), zJ V (fn_P_differ_112 x1 x2 y0 y1 σ) (zwC ad ca σ ++ ex) 112 [(0, .ref (ad 0)), (1, .int x1), (2, .int x2)] [.int y0, .int y1] := by
  intro x1 x2 y0 y1 σ
  show zJ V (zb (fn_P_bitIf y0 (2 : Int32) σ) (fun r113 s113 => zgd (zin x1 32) (zgd (zin x2 32) (if (s113.1 10 x1.toNatClampNeg) = (s113.1 10 x2.toNatClampNeg) then fn_P_differ_143 x1 x2 (0 : Int32) (y1 ||| r113) s113 else fn_P_differ_143 x1 x2 (1 : Int32) (y1 ||| r113) s113)))) _ _ _ _
  refine z_iconst (v := 2) hX d_P_differ_112 (by decide) ?_
  refine z_callSi (wl := zwC ad ca) (n := 2) (rest := [.int y1]) hX [.int y0, .int (2 : Int32)] (ct_P_bitIf l D ca (zwC ad ca) y0 (2 : Int32) σ) gS_P_119 ⟨rfl, rfl⟩ ⟨by decide, by decide⟩ (by decide +kernel) rfl rfl (Nat.le_of_ble_eq_true rfl) d_P_differ_113 (fun r113 s113 => ?_)
  refine z_ior hX d_P_differ_116 ?_
  refine z_aload_n (i := 0) hX d_P_differ_117 rfl rfl ?_
  refine z_get (C := R_P) (T := F_P) (N := 7) hX in_P 0 rfl rfl 1 (by decide) w_field_P_19_P_1 rfl d_P_differ_118 ?_
  refine z_get (C := R_A) (T := F_A) (N := 11) hX in_A 6 rfl rfl 4 (by decide) w_field_P_133_A_4 rfl d_P_differ_121 ?_
  refine z_iload_n (i := 1) hX d_P_differ_124 rfl rfl ?_
  refine z_iald hX 10 7 rfl rfl d_P_differ_125 ?_
  refine z_aload_n (i := 0) hX d_P_differ_126 rfl rfl ?_
  refine z_get (C := R_P) (T := F_P) (N := 7) hX in_P 0 rfl rfl 1 (by decide) w_field_P_19_P_1 rfl d_P_differ_127 ?_
  refine z_get (C := R_A) (T := F_A) (N := 11) hX in_A 6 rfl rfl 4 (by decide) w_field_P_133_A_4 rfl d_P_differ_130 ?_
  refine z_iload_n (i := 2) hX d_P_differ_133 rfl rfl ?_
  refine z_iald hX 10 7 rfl rfl d_P_differ_134 ?_
  refine z_icmp_eq (tgt := 142) hX d_P_differ_135 (by decide) (fun c135 => ?_) (fun c135 => ?_)
  · refine z_iconst (v := 0) hX d_P_differ_142 (by decide) ?_
    exact bk_P_differ_143 l D ad ca hX hR _ _ _ _ _
  · refine z_iconst (v := 1) hX d_P_differ_138 (by decide) ?_
    refine z_goto (tgt := 143) hX d_P_differ_139 (by decide) ?_
    exact bk_P_differ_143 l D ad ca hX hR _ _ _ _ _
def fn_P_differ_81 (x1 : Int32) (x2 : Int32) (y0 : Int32) (y1 : Int32) (σ : zS) : Option (Int32 × zS) := zb (fn_P_bitIf y0 (1 : Int32) σ) (fun r82 s82 => zgd (zin x1 32) (zgd (zin x2 32) (if (s82.1 9 x1.toNatClampNeg) = (s82.1 9 x2.toNatClampNeg) then fn_P_differ_112 x1 x2 (0 : Int32) (y1 ||| r82) s82 else fn_P_differ_112 x1 x2 (1 : Int32) (y1 ||| r82) s82)))
set_option maxRecDepth 100000 in
set_option maxHeartbeats 4000000 in
theorem bk_P_differ_81 (l : Launch) (D : va_G) (ad : Nat → Nat) (ca : Nat → ClassId) {V : zV Int32} {ex : va_W} (hX : zIs V l b_P_differ R_P zTT (zKK D ca) D zcl (zty ca) 3 (zrm 3 69)) (hR : zRi V b_P_differ (zwC ad ca) ex) : ∀ (x1 : Int32) (x2 : Int32) (y0 : Int32) (y1 : Int32) (σ : zS), zJ V (fn_P_differ_81 x1 x2 y0 y1 σ) (zwC ad ca σ ++ ex) 81 [(0, .ref (ad 0)), (1, .int x1), (2, .int x2)] [.int y0, .int y1] := by
  intro x1 x2 y0 y1 σ
  show zJ V (zb (fn_P_bitIf y0 (1 : Int32) σ) (fun r82 s82 => zgd (zin x1 32) (zgd (zin x2 32) (if (s82.1 9 x1.toNatClampNeg) = (s82.1 9 x2.toNatClampNeg) then fn_P_differ_112 x1 x2 (0 : Int32) (y1 ||| r82) s82 else fn_P_differ_112 x1 x2 (1 : Int32) (y1 ||| r82) s82)))) _ _ _ _
  refine z_iconst (v := 1) hX d_P_differ_81 (by decide) ?_
  refine z_callSi (wl := zwC ad ca) (n := 2) (rest := [.int y1]) hX [.int y0, .int (1 : Int32)] (ct_P_bitIf l D ca (zwC ad ca) y0 (1 : Int32) σ) gS_P_119 ⟨rfl, rfl⟩ ⟨by decide, by decide⟩ (by decide +kernel) rfl rfl (Nat.le_of_ble_eq_true rfl) d_P_differ_82 (fun r82 s82 => ?_)
  refine z_ior hX d_P_differ_85 ?_
  refine z_aload_n (i := 0) hX d_P_differ_86 rfl rfl ?_
  refine z_get (C := R_P) (T := F_P) (N := 7) hX in_P 0 rfl rfl 1 (by decide) w_field_P_19_P_1 rfl d_P_differ_87 ?_
  refine z_get (C := R_A) (T := F_A) (N := 11) hX in_A 6 rfl rfl 3 (by decide) w_field_P_130_A_3 rfl d_P_differ_90 ?_
  refine z_iload_n (i := 1) hX d_P_differ_93 rfl rfl ?_
  refine z_iald hX 9 6 rfl rfl d_P_differ_94 ?_
  refine z_aload_n (i := 0) hX d_P_differ_95 rfl rfl ?_
  refine z_get (C := R_P) (T := F_P) (N := 7) hX in_P 0 rfl rfl 1 (by decide) w_field_P_19_P_1 rfl d_P_differ_96 ?_
  refine z_get (C := R_A) (T := F_A) (N := 11) hX in_A 6 rfl rfl 3 (by decide) w_field_P_130_A_3 rfl d_P_differ_99 ?_
  refine z_iload_n (i := 2) hX d_P_differ_102 rfl rfl ?_
  refine z_iald hX 9 6 rfl rfl d_P_differ_103 ?_
  refine z_icmp_eq (tgt := 111) hX d_P_differ_104 (by decide) (fun c104 => ?_) (fun c104 => ?_)
  · refine z_iconst (v := 0) hX d_P_differ_111 (by decide) ?_
    exact bk_P_differ_112 l D ad ca hX hR _ _ _ _ _
  · refine z_iconst (v := 1) hX d_P_differ_107 (by decide) ?_
    refine z_goto (tgt := 112) hX d_P_differ_108 (by decide) ?_
    exact bk_P_differ_112 l D ad ca hX hR _ _ _ _ _
def fn_P_differ_51 (x1 : Int32) (x2 : Int32) (y0 : Int32) (σ : zS) : Option (Int32 × zS) := zb (fn_P_bitIf y0 (0 : Int32) σ) (fun r52 s52 => zgd (zin x1 32) (zgd (zin x2 32) (if (s52.1 8 x1.toNatClampNeg) = (s52.1 8 x2.toNatClampNeg) then fn_P_differ_81 x1 x2 (0 : Int32) r52 s52 else fn_P_differ_81 x1 x2 (1 : Int32) r52 s52)))
set_option maxRecDepth 100000 in
set_option maxHeartbeats 4000000 in
theorem bk_P_differ_51 (l : Launch) (D : va_G) (ad : Nat → Nat) (ca : Nat → ClassId) {V : zV Int32} {ex : va_W} (hX : zIs V l b_P_differ R_P zTT (zKK D ca) D zcl (zty ca) 3 (zrm 3 69)) (hR : zRi V b_P_differ (zwC ad ca) ex) : ∀ (x1 : Int32) (x2 : Int32) (y0 : Int32) (σ : zS), zJ V (fn_P_differ_51 x1 x2 y0 σ) (zwC ad ca σ ++ ex) 51 [(0, .ref (ad 0)), (1, .int x1), (2, .int x2)] [.int y0] := by
  intro x1 x2 y0 σ
  show zJ V (zb (fn_P_bitIf y0 (0 : Int32) σ) (fun r52 s52 => zgd (zin x1 32) (zgd (zin x2 32) (if (s52.1 8 x1.toNatClampNeg) = (s52.1 8 x2.toNatClampNeg) then fn_P_differ_81 x1 x2 (0 : Int32) r52 s52 else fn_P_differ_81 x1 x2 (1 : Int32) r52 s52)))) _ _ _ _
  refine z_iconst (v := 0) hX d_P_differ_51 (by decide) ?_
  refine z_callSi (wl := zwC ad ca) (n := 2) (rest := []) hX [.int y0, .int (0 : Int32)] (ct_P_bitIf l D ca (zwC ad ca) y0 (0 : Int32) σ) gS_P_119 ⟨rfl, rfl⟩ ⟨by decide, by decide⟩ (by decide +kernel) rfl rfl (Nat.le_of_ble_eq_true rfl) d_P_differ_52 (fun r52 s52 => ?_)
  refine z_aload_n (i := 0) hX d_P_differ_55 rfl rfl ?_
  refine z_get (C := R_P) (T := F_P) (N := 7) hX in_P 0 rfl rfl 1 (by decide) w_field_P_19_P_1 rfl d_P_differ_56 ?_
  refine z_get (C := R_A) (T := F_A) (N := 11) hX in_A 6 rfl rfl 2 (by decide) w_field_P_127_A_2 rfl d_P_differ_59 ?_
  refine z_iload_n (i := 1) hX d_P_differ_62 rfl rfl ?_
  refine z_iald hX 8 5 rfl rfl d_P_differ_63 ?_
  refine z_aload_n (i := 0) hX d_P_differ_64 rfl rfl ?_
  refine z_get (C := R_P) (T := F_P) (N := 7) hX in_P 0 rfl rfl 1 (by decide) w_field_P_19_P_1 rfl d_P_differ_65 ?_
  refine z_get (C := R_A) (T := F_A) (N := 11) hX in_A 6 rfl rfl 2 (by decide) w_field_P_127_A_2 rfl d_P_differ_68 ?_
  refine z_iload_n (i := 2) hX d_P_differ_71 rfl rfl ?_
  refine z_iald hX 8 5 rfl rfl d_P_differ_72 ?_
  refine z_icmp_eq (tgt := 80) hX d_P_differ_73 (by decide) (fun c73 => ?_) (fun c73 => ?_)
  · refine z_iconst (v := 0) hX d_P_differ_80 (by decide) ?_
    exact bk_P_differ_81 l D ad ca hX hR _ _ _ _ _
  · refine z_iconst (v := 1) hX d_P_differ_76 (by decide) ?_
    refine z_goto (tgt := 81) hX d_P_differ_77 (by decide) ?_
    exact bk_P_differ_81 l D ad ca hX hR _ _ _ _ _
def fn_P_differ (x1 : Int32) (x2 : Int32) (σ : zS) : Option (Int32 × zS) := zb (fn_A_has x1 σ) (fun r5 s5 => if r5 = 0 then some ((-1 : Int32), s5) else zb (fn_A_has x2 s5) (fun r16 s16 => if r16 = 0 then some ((-1 : Int32), s16) else zgd (zin x1 32) (zgd (zin x2 32) (if (lg_cmp (s16.2 7 x1.toNatClampNeg) (s16.2 7 x2.toNatClampNeg)) = 0 then fn_P_differ_51 x1 x2 (0 : Int32) s16 else fn_P_differ_51 x1 x2 (1 : Int32) s16))))
set_option maxRecDepth 100000 in
set_option maxHeartbeats 4000000 in
theorem ct_P_differ (l : Launch) (D : va_G) (ad : Nat → Nat) (ca : Nat → ClassId) (x1 : Int32) (x2 : Int32) (σ : zS) : zC zemI l y_P_differ (Cond.code y_P_differ b_P_differ 3 (some .int) :: zTT) (zrm 3 69) D zcl (zKK D ca) (zwC ad ca) σ [.ref (ad 0), .int x1, .int x2] (fn_P_differ x1 x2 σ) := by
  refine zmk_i (tys := zty ca) (by decide) (zKK_m D ca) (fun _ h => h.1) (Nat.le_of_ble_eq_true rfl) (fun V ex hX hR => ?_)
  show zJ V (zb (fn_A_has x1 σ) (fun r5 s5 => if r5 = 0 then some ((-1 : Int32), s5) else zb (fn_A_has x2 s5) (fun r16 s16 => if r16 = 0 then some ((-1 : Int32), s16) else zgd (zin x1 32) (zgd (zin x2 32) (if (lg_cmp (s16.2 7 x1.toNatClampNeg) (s16.2 7 x2.toNatClampNeg)) = 0 then fn_P_differ_51 x1 x2 (0 : Int32) s16 else fn_P_differ_51 x1 x2 (1 : Int32) s16))))) (zwC ad ca σ ++ ex) 0 [(0, .ref (ad 0)), (1, .int x1), (2, .int x2)] []
  refine z_aload_n (i := 0) hX d_P_differ_0 rfl rfl ?_
  refine z_get (C := R_P) (T := F_P) (N := 7) hX in_P 0 rfl rfl 1 (by decide) w_field_P_19_P_1 rfl d_P_differ_1 ?_
  refine z_iload_n (i := 1) hX d_P_differ_4 rfl rfl ?_
  refine z_callVi (wl := zwC ad ca) (C := R_A) (n := 1) (rest := []) hX [.int x1] (ct_A_has l D ad ca x1 σ) gV_P_68 ⟨rfl, rfl⟩ ⟨by decide, by decide⟩ (by decide +kernel) rfl 6 rfl rfl rfl rfl (Nat.le_of_ble_eq_true rfl) d_P_differ_5 (fun r5 s5 => ?_)
  refine z_if_eq (tgt := 22) hX d_P_differ_8 (by decide) (fun c8 => ?_) (fun c8 => ?_)
  · refine z_iconst (v := -1) hX d_P_differ_22 (by decide) ?_
    exact z_iret hR d_P_differ_23
  · refine z_aload_n (i := 0) hX d_P_differ_11 rfl rfl ?_
    refine z_get (C := R_P) (T := F_P) (N := 7) hX in_P 0 rfl rfl 1 (by decide) w_field_P_19_P_1 rfl d_P_differ_12 ?_
    refine z_iload_n (i := 2) hX d_P_differ_15 rfl rfl ?_
    refine z_callVi (wl := zwC ad ca) (C := R_A) (n := 1) (rest := []) hX [.int x2] (ct_A_has l D ad ca x2 s5) gV_P_68 ⟨rfl, rfl⟩ ⟨by decide, by decide⟩ (by decide +kernel) rfl 6 rfl rfl rfl rfl (Nat.le_of_ble_eq_true rfl) d_P_differ_16 (fun r16 s16 => ?_)
    refine z_if_ne (tgt := 24) hX d_P_differ_19 (by decide) (fun c19 => ?_) (fun c19 => ?_)
    · refine z_iconst (v := -1) hX d_P_differ_22 (by decide) ?_
      exact z_iret hR d_P_differ_23
    · refine z_aload_n (i := 0) hX d_P_differ_24 rfl rfl ?_
      refine z_get (C := R_P) (T := F_P) (N := 7) hX in_P 0 rfl rfl 1 (by decide) w_field_P_19_P_1 rfl d_P_differ_25 ?_
      refine z_get (C := R_A) (T := F_A) (N := 11) hX in_A 6 rfl rfl 1 (by decide) w_field_P_123_A_1 rfl d_P_differ_28 ?_
      refine z_iload_n (i := 1) hX d_P_differ_31 rfl rfl ?_
      refine z_lald hX 7 4 rfl rfl d_P_differ_32 ?_
      refine z_aload_n (i := 0) hX d_P_differ_33 rfl rfl ?_
      refine z_get (C := R_P) (T := F_P) (N := 7) hX in_P 0 rfl rfl 1 (by decide) w_field_P_19_P_1 rfl d_P_differ_34 ?_
      refine z_get (C := R_A) (T := F_A) (N := 11) hX in_A 6 rfl rfl 1 (by decide) w_field_P_123_A_1 rfl d_P_differ_37 ?_
      refine z_iload_n (i := 2) hX d_P_differ_40 rfl rfl ?_
      refine z_lald hX 7 4 rfl rfl d_P_differ_41 ?_
      refine z_lcmp hX d_P_differ_42 ?_
      refine z_if_eq (tgt := 50) hX d_P_differ_43 (by decide) (fun c43 => ?_) (fun c43 => ?_)
      · refine z_iconst (v := 0) hX d_P_differ_50 (by decide) ?_
        exact bk_P_differ_51 l D ad ca hX hR _ _ _ _
      · refine z_iconst (v := 1) hX d_P_differ_46 (by decide) ?_
        refine z_goto (tgt := 51) hX d_P_differ_47 (by decide) ?_
        exact bk_P_differ_51 l D ad ca hX hR _ _ _ _
def fn_P_clash_34 (k16 : Int32 → Int32 → Int32 → Int32 → zS → Option (Int32 × zS)) : Nat → Int32 → Int32 → Int32 → Int32 → Int32 → zS → Option (Int32 × zS)
  | 0, _, _, _, _, _, _ => none
  | n + 1, x1, x2, x3, x4, x5, σ => if x5 < (σ.1 220 0) then zb (fn_A_clashing x4 x5 σ) (fun r54 s54 => if r54 = 0 then fn_P_clash_34 k16 n x1 x2 x3 x4 (x5 + 1) s54 else if x3 = x1 then if x2 = 0 then some (x4, s54) else some (x5, s54) else fn_P_clash_34 k16 n x1 x2 (x3 + 1) x4 (x5 + 1) s54) else k16 x1 x2 x3 (x4 + 1) σ
set_option maxRecDepth 100000 in
set_option maxHeartbeats 4000000 in
theorem bk_P_clash_34 (l : Launch) (D : va_G) (ad : Nat → Nat) (ca : Nat → ClassId) {V : zV Int32} {ex : va_W} (hX : zIs V l b_P_clash R_P zTT (zKK D ca) D zcl (zty ca) 6 (zrm 3 68)) (hR : zRi V b_P_clash (zwC ad ca) ex) (k16 : Int32 → Int32 → Int32 → Int32 → zS → Option (Int32 × zS)) (hk16 : ∀ (z1 : Int32) (z2 : Int32) (z3 : Int32) (z4 : Int32) (σ : zS), zJ V (k16 z1 z2 z3 z4 σ) (zwC ad ca σ ++ ex) 16 [(0, .ref (ad 0)), (1, .int z1), (2, .int z2), (3, .int z3), (4, .int z4)] []) : ∀ (n : Nat) (x1 : Int32) (x2 : Int32) (x3 : Int32) (x4 : Int32) (x5 : Int32) (σ : zS), zJ V (fn_P_clash_34 k16 n x1 x2 x3 x4 x5 σ) (zwC ad ca σ ++ ex) 34 [(0, .ref (ad 0)), (1, .int x1), (2, .int x2), (3, .int x3), (4, .int x4), (5, .int x5)] [] := by
  intro n
  induction n with
  | zero => intros; exact z_none
  | succ n ih =>
    intro x1 x2 x3 x4 x5 σ
    show zJ V (if x5 < (σ.1 220 0) then zb (fn_A_clashing x4 x5 σ) (fun r54 s54 => if r54 = 0 then fn_P_clash_34 k16 n x1 x2 x3 x4 (x5 + 1) s54 else if x3 = x1 then if x2 = 0 then some (x4, s54) else some (x5, s54) else fn_P_clash_34 k16 n x1 x2 (x3 + 1) x4 (x5 + 1) s54) else k16 x1 x2 x3 (x4 + 1) σ) _ _ _ _
    refine z_iload (i := 5) hX d_P_clash_34 rfl ?_
    refine z_aload_n (i := 0) hX d_P_clash_36 rfl rfl ?_
    refine z_get (C := R_P) (T := F_P) (N := 7) hX in_P 0 rfl rfl 1 (by decide) w_field_P_19_P_1 rfl d_P_clash_37 ?_
    refine z_get (C := R_A) (T := F_A) (N := 11) hX in_A 6 rfl rfl 0 (by decide) w_field_P_108_A_0 rfl d_P_clash_40 ?_
    refine z_icmp_ge (tgt := 86) hX d_P_clash_43 (by decide) (fun c43 => ?_) (fun c43 => ?_)
    · refine z_aload_n (i := 0) hX d_P_clash_46 rfl rfl ?_
      refine z_get (C := R_P) (T := F_P) (N := 7) hX in_P 0 rfl rfl 1 (by decide) w_field_P_19_P_1 rfl d_P_clash_47 ?_
      refine z_iload (i := 4) hX d_P_clash_50 rfl ?_
      refine z_iload (i := 5) hX d_P_clash_52 rfl ?_
      refine z_callVi (wl := zwC ad ca) (C := R_A) (n := 2) (rest := []) hX [.int x4, .int x5] (ct_A_clashing l D ad ca x4 x5 σ) gV_P_145 ⟨rfl, rfl⟩ ⟨by decide, by decide⟩ (by decide +kernel) rfl 6 rfl rfl rfl rfl (Nat.le_of_ble_eq_true rfl) d_P_clash_54 (fun r54 s54 => ?_)
      refine z_if_eq (tgt := 80) hX d_P_clash_57 (by decide) (fun c57 => ?_) (fun c57 => ?_)
      · refine z_iinc (v := x5 + 1) (lv2 := [(5, .int (x5 + 1)), (0, .ref (ad 0)), (1, .int x1), (2, .int x2), (3, .int x3), (4, .int x4)]) hX d_P_clash_80 5 rfl (by first | rfl | decide) (by decide) rfl ?_
        refine z_goto (tgt := 34) hX d_P_clash_83 (by decide) ?_
        refine z_lv hX [1, 2, 3, 4, 5, 0] (lv2 := [(0, .ref (ad 0)), (1, .int x1), (2, .int x2), (3, .int x3), (4, .int x4), (5, .int (x5 + 1))]) rfl ?_
        exact ih _ _ _ _ _ _
      · refine z_iload_n (i := 3) hX d_P_clash_60 rfl rfl ?_
        refine z_iload_n (i := 1) hX d_P_clash_61 rfl rfl ?_
        refine z_icmp_ne (tgt := 77) hX d_P_clash_62 (by decide) (fun c62 => ?_) (fun c62 => ?_)
        · refine z_iload_n (i := 2) hX d_P_clash_65 rfl rfl ?_
          refine z_if_ne (tgt := 74) hX d_P_clash_66 (by decide) (fun c66 => ?_) (fun c66 => ?_)
          · refine z_iload (i := 4) hX d_P_clash_69 rfl ?_
            refine z_goto (tgt := 76) hX d_P_clash_71 (by decide) ?_
            exact z_iret hR d_P_clash_76
          · refine z_iload (i := 5) hX d_P_clash_74 rfl ?_
            exact z_iret hR d_P_clash_76
        · refine z_iinc (v := x3 + 1) (lv2 := [(3, .int (x3 + 1)), (0, .ref (ad 0)), (1, .int x1), (2, .int x2), (4, .int x4), (5, .int x5)]) hX d_P_clash_77 3 rfl (by first | rfl | decide) (by decide) rfl ?_
          refine z_iinc (v := x5 + 1) (lv2 := [(5, .int (x5 + 1)), (3, .int (x3 + 1)), (0, .ref (ad 0)), (1, .int x1), (2, .int x2), (4, .int x4)]) hX d_P_clash_80 5 rfl (by first | rfl | decide) (by decide) rfl ?_
          refine z_goto (tgt := 34) hX d_P_clash_83 (by decide) ?_
          refine z_lv hX [2, 3, 4, 1, 5, 0] (lv2 := [(0, .ref (ad 0)), (1, .int x1), (2, .int x2), (3, .int (x3 + 1)), (4, .int x4), (5, .int (x5 + 1))]) rfl ?_
          exact ih _ _ _ _ _ _
    · refine z_iinc (v := x4 + 1) (lv2 := [(4, .int (x4 + 1)), (0, .ref (ad 0)), (1, .int x1), (2, .int x2), (3, .int x3), (5, .int x5)]) hX d_P_clash_86 4 rfl (by first | rfl | decide) (by decide) rfl ?_
      refine z_goto (tgt := 16) hX d_P_clash_89 (by decide) ?_
      refine z_lv hX [1, 2, 3, 4, 0] (lv2 := [(0, .ref (ad 0)), (1, .int x1), (2, .int x2), (3, .int x3), (4, .int (x4 + 1))]) rfl ?_
      exact hk16 _ _ _ _ _
def fn_P_clash_16 : Nat → Int32 → Int32 → Int32 → Int32 → zS → Option (Int32 × zS)
  | 0, _, _, _, _, _ => none
  | n + 1, x1, x2, x3, x4, σ => if x4 < (σ.1 220 0) then fn_P_clash_34 (fn_P_clash_16 n) 100 x1 x2 x3 x4 (x4 + (1 : Int32)) σ else some ((-1 : Int32), σ)
set_option maxRecDepth 100000 in
set_option maxHeartbeats 4000000 in
theorem bk_P_clash_16 (l : Launch) (D : va_G) (ad : Nat → Nat) (ca : Nat → ClassId) {V : zV Int32} {ex : va_W} (hX : zIs V l b_P_clash R_P zTT (zKK D ca) D zcl (zty ca) 6 (zrm 3 68)) (hR : zRi V b_P_clash (zwC ad ca) ex) : ∀ (n : Nat) (x1 : Int32) (x2 : Int32) (x3 : Int32) (x4 : Int32) (σ : zS), zJ V (fn_P_clash_16 n x1 x2 x3 x4 σ) (zwC ad ca σ ++ ex) 16 [(0, .ref (ad 0)), (1, .int x1), (2, .int x2), (3, .int x3), (4, .int x4)] [] := by
  intro n
  induction n with
  | zero => intros; exact z_none
  | succ n ih =>
    intro x1 x2 x3 x4 σ
    show zJ V (if x4 < (σ.1 220 0) then fn_P_clash_34 (fn_P_clash_16 n) 100 x1 x2 x3 x4 (x4 + (1 : Int32)) σ else some ((-1 : Int32), σ)) _ _ _ _
    refine z_iload (i := 4) hX d_P_clash_16 rfl ?_
    refine z_aload_n (i := 0) hX d_P_clash_18 rfl rfl ?_
    refine z_get (C := R_P) (T := F_P) (N := 7) hX in_P 0 rfl rfl 1 (by decide) w_field_P_19_P_1 rfl d_P_clash_19 ?_
    refine z_get (C := R_A) (T := F_A) (N := 11) hX in_A 6 rfl rfl 0 (by decide) w_field_P_108_A_0 rfl d_P_clash_22 ?_
    refine z_icmp_ge (tgt := 92) hX d_P_clash_25 (by decide) (fun c25 => ?_) (fun c25 => ?_)
    · refine z_iload (i := 4) hX d_P_clash_28 rfl ?_
      refine z_iconst (v := 1) hX d_P_clash_30 (by decide) ?_
      refine z_iadd hX d_P_clash_31 ?_
      refine z_istore (i := 5) (lv2 := [(5, .int (x4 + (1 : Int32))), (0, .ref (ad 0)), (1, .int x1), (2, .int x2), (3, .int x3), (4, .int x4)]) hX d_P_clash_32 (by decide) rfl ?_
      refine z_lv hX [1, 2, 3, 4, 5, 0] (lv2 := [(0, .ref (ad 0)), (1, .int x1), (2, .int x2), (3, .int x3), (4, .int x4), (5, .int (x4 + (1 : Int32)))]) rfl ?_
      exact bk_P_clash_34 l D ad ca hX hR (fn_P_clash_16 n) ih 100 _ _ _ _ _ _
    · refine z_iconst (v := -1) hX d_P_clash_92 (by decide) ?_
      exact z_iret hR d_P_clash_93
def fn_P_clash (x1 : Int32) (x2 : Int32) (σ : zS) : Option (Int32 × zS) := if x2 = 0 then fn_P_clash_16 100 x1 x2 (0 : Int32) (0 : Int32) σ else if x2 = (1 : Int32) then fn_P_clash_16 100 x1 x2 (0 : Int32) (0 : Int32) σ else some ((-1 : Int32), σ)
set_option maxRecDepth 100000 in
set_option maxHeartbeats 4000000 in
theorem ct_P_clash (l : Launch) (D : va_G) (ad : Nat → Nat) (ca : Nat → ClassId) (x1 : Int32) (x2 : Int32) (σ : zS) : zC zemI l y_P_clash (Cond.code y_P_clash b_P_clash 6 (some .int) :: zTT) (zrm 3 68) D zcl (zKK D ca) (zwC ad ca) σ [.ref (ad 0), .int x1, .int x2] (fn_P_clash x1 x2 σ) := by
  refine zmk_i (tys := zty ca) (by decide) (zKK_m D ca) (fun _ h => h.1) (Nat.le_of_ble_eq_true rfl) (fun V ex hX hR => ?_)
  show zJ V (if x2 = 0 then fn_P_clash_16 100 x1 x2 (0 : Int32) (0 : Int32) σ else if x2 = (1 : Int32) then fn_P_clash_16 100 x1 x2 (0 : Int32) (0 : Int32) σ else some ((-1 : Int32), σ)) (zwC ad ca σ ++ ex) 0 [(0, .ref (ad 0)), (1, .int x1), (2, .int x2)] []
  refine z_iload_n (i := 2) hX d_P_clash_0 rfl rfl ?_
  refine z_if_eq (tgt := 11) hX d_P_clash_1 (by decide) (fun c1 => ?_) (fun c1 => ?_)
  · refine z_iconst (v := 0) hX d_P_clash_11 (by decide) ?_
    refine z_istore_n (i := 3) (lv2 := [(3, .int (0 : Int32)), (0, .ref (ad 0)), (1, .int x1), (2, .int x2)]) hX d_P_clash_12 rfl (by decide) rfl ?_
    refine z_iconst (v := 0) hX d_P_clash_13 (by decide) ?_
    refine z_istore (i := 4) (lv2 := [(4, .int (0 : Int32)), (3, .int (0 : Int32)), (0, .ref (ad 0)), (1, .int x1), (2, .int x2)]) hX d_P_clash_14 (by decide) rfl ?_
    refine z_lv hX [2, 3, 4, 1, 0] (lv2 := [(0, .ref (ad 0)), (1, .int x1), (2, .int x2), (3, .int (0 : Int32)), (4, .int (0 : Int32))]) rfl ?_
    exact bk_P_clash_16 l D ad ca hX hR 100 _ _ _ _ _
  · refine z_iload_n (i := 2) hX d_P_clash_4 rfl rfl ?_
    refine z_iconst (v := 1) hX d_P_clash_5 (by decide) ?_
    refine z_icmp_eq (tgt := 11) hX d_P_clash_6 (by decide) (fun c6 => ?_) (fun c6 => ?_)
    · refine z_iconst (v := 0) hX d_P_clash_11 (by decide) ?_
      refine z_istore_n (i := 3) (lv2 := [(3, .int (0 : Int32)), (0, .ref (ad 0)), (1, .int x1), (2, .int x2)]) hX d_P_clash_12 rfl (by decide) rfl ?_
      refine z_iconst (v := 0) hX d_P_clash_13 (by decide) ?_
      refine z_istore (i := 4) (lv2 := [(4, .int (0 : Int32)), (3, .int (0 : Int32)), (0, .ref (ad 0)), (1, .int x1), (2, .int x2)]) hX d_P_clash_14 (by decide) rfl ?_
      refine z_lv hX [2, 3, 4, 1, 0] (lv2 := [(0, .ref (ad 0)), (1, .int x1), (2, .int x2), (3, .int (0 : Int32)), (4, .int (0 : Int32))]) rfl ?_
      exact bk_P_clash_16 l D ad ca hX hR 100 _ _ _ _ _
    · refine z_iconst (v := -1) hX d_P_clash_9 (by decide) ?_
      exact z_iret hR d_P_clash_10
