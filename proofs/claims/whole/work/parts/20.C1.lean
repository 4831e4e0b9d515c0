def fn_P_isUpTo (x0 : Int32) (x1 : Int32) (σ : zS) : Option (Int32 × zS) := if x0 < 0 then some ((0 : Int32), σ) else if x1 < x0 then some ((0 : Int32), σ) else some ((1 : Int32), σ)
set_option maxRecDepth 100000 in
set_option maxHeartbeats 4000000 in
theorem ct_P_isUpTo (l : Launch) (D : va_G) (ca : Nat → ClassId) (wl : zS → va_W) (x0 : Int32) (x1 : Int32) (σ : zS) : zC zemI l y_P_isUpTo (Cond.code y_P_isUpTo b_P_isUpTo 2 (some .boolean) :: zTT) (zrm 0 0) D zcl (zKK D ca) wl σ [.int x0, .int x1] (fn_P_isUpTo x0 x1 σ) := by
  refine zmk_z (tys := zty ca) (by decide) (zKK_m D ca) (fun _ h => h.1) (Nat.le_of_ble_eq_true rfl) (fun V ex hX hR => ?_)
  show zJ V (if x0 < 0 then some ((0 : Int32), σ) else if x1 < x0 then some ((0 : Int32), σ) else some ((1 : Int32), σ)) (wl σ ++ ex) 0 [(0, .int x0), (1, .int x1)] []
  refine z_iload_n (i := 0) hX d_P_isUpTo_0 rfl rfl ?_
  refine z_if_lt (tgt := 13) hX d_P_isUpTo_1 (by decide) (fun c1 => ?_) (fun c1 => ?_)
  · refine z_iconst (v := 0) hX d_P_isUpTo_13 (by decide) ?_
    exact z_zret hR rfl d_P_isUpTo_14
  · refine z_iload_n (i := 0) hX d_P_isUpTo_4 rfl rfl ?_
    refine z_iload_n (i := 1) hX d_P_isUpTo_5 rfl rfl ?_
    refine z_icmp_gt (tgt := 13) hX d_P_isUpTo_6 (by decide) (fun c6 => ?_) (fun c6 => ?_)
    · refine z_iconst (v := 0) hX d_P_isUpTo_13 (by decide) ?_
      exact z_zret hR rfl d_P_isUpTo_14
    · refine z_iconst (v := 1) hX d_P_isUpTo_9 (by decide) ?_
      refine z_goto (tgt := 14) hX d_P_isUpTo_10 (by decide) ?_
      exact z_zret hR rfl d_P_isUpTo_14
def fn_S_add (x1 : Int64) (x3 : Int32) (x4 : Int32) (σ : zS) : Option (Int32 × zS) := if (σ.1 120 0) < (24 : Int32) then zgd (zin (σ.1 120 0) 24) (zst (zL σ 2 (σ.1 120 0).toNatClampNeg x1) (fun s24 => zgd (zin (σ.1 120 0) 24) (zst (zI s24 3 (σ.1 120 0).toNatClampNeg x3) (fun s32 => zgd (zin (σ.1 120 0) 24) (zst (zI s32 4 (σ.1 120 0).toNatClampNeg x4) (fun s41 => zst (zF s41 120 ((s41.1 120 0) + (1 : Int32))) (fun s49 => some (σ.1 120 0, s49)))))))) else some ((-1 : Int32), σ)
set_option maxRecDepth 100000 in
set_option maxHeartbeats 4000000 in
theorem ct_S_add (l : Launch) (D : va_G) (ad : Nat → Nat) (ca : Nat → ClassId) (x1 : Int64) (x3 : Int32) (x4 : Int32) (σ : zS) : zC zemI l y_S_add (Cond.code y_S_add b_S_add 6 (some .int) :: zTT) (zrm 0 0) D zcl (zKK D ca) (zwC ad ca) σ [.ref (ad 1), .long x1, .int x3, .int x4] (fn_S_add x1 x3 x4 σ) := by
  refine zmk_i (tys := zty ca) (by decide) (zKK_m D ca) (fun _ h => h.1) (Nat.le_of_ble_eq_true rfl) (fun V ex hX hR => ?_)
  show zJ V (if (σ.1 120 0) < (24 : Int32) then zgd (zin (σ.1 120 0) 24) (zst (zL σ 2 (σ.1 120 0).toNatClampNeg x1) (fun s24 => zgd (zin (σ.1 120 0) 24) (zst (zI s24 3 (σ.1 120 0).toNatClampNeg x3) (fun s32 => zgd (zin (σ.1 120 0) 24) (zst (zI s32 4 (σ.1 120 0).toNatClampNeg x4) (fun s41 => zst (zF s41 120 ((s41.1 120 0) + (1 : Int32))) (fun s49 => some (σ.1 120 0, s49)))))))) else some ((-1 : Int32), σ)) (zwC ad ca σ ++ ex) 0 [(0, .ref (ad 1)), (1, .long x1), (3, .int x3), (4, .int x4)] []
  refine z_aload_n (i := 0) hX d_S_add_0 rfl rfl ?_
  refine z_get (C := R_S) (T := F_S) (N := 5) hX in_S 1 rfl rfl 0 (by decide) w_field_S_26_S_0 rfl d_S_add_1 ?_
  refine z_bipush (v := 24) hX d_S_add_4 (by decide) ?_
  refine z_icmp_lt (tgt := 11) hX d_S_add_6 (by decide) (fun c6 => ?_) (fun c6 => ?_)
  · refine z_aload_n (i := 0) hX d_S_add_11 rfl rfl ?_
    refine z_get (C := R_S) (T := F_S) (N := 5) hX in_S 1 rfl rfl 0 (by decide) w_field_S_26_S_0 rfl d_S_add_12 ?_
    refine z_istore (i := 5) (lv2 := [(5, .int (σ.1 120 0)), (0, .ref (ad 1)), (1, .long x1), (3, .int x3), (4, .int x4)]) hX d_S_add_15 (by decide) rfl ?_
    refine z_aload_n (i := 0) hX d_S_add_17 rfl rfl ?_
    refine z_get (C := R_S) (T := F_S) (N := 5) hX in_S 1 rfl rfl 1 (by decide) w_field_S_9_S_1 rfl d_S_add_18 ?_
    refine z_iload (i := 5) hX d_S_add_21 rfl ?_
    refine z_lload_n (i := 1) hX d_S_add_23 rfl rfl ?_
    refine z_last (wl := zwC ad ca) (ex := ex) (x9 := (zL σ 2 (σ.1 120 0).toNatClampNeg x1)) hX 2 0 rfl rfl rfl d_S_add_24 (fun s24 => ?_)
    refine z_aload_n (i := 0) hX d_S_add_25 rfl rfl ?_
    refine z_get (C := R_S) (T := F_S) (N := 5) hX in_S 1 rfl rfl 2 (by decide) w_field_S_15_S_2 rfl d_S_add_26 ?_
    refine z_iload (i := 5) hX d_S_add_29 rfl ?_
    refine z_iload_n (i := 3) hX d_S_add_31 rfl rfl ?_
    refine z_iast (wl := zwC ad ca) (ex := ex) (x9 := (zI s24 3 (σ.1 120 0).toNatClampNeg x3)) hX 3 1 rfl rfl rfl d_S_add_32 (fun s32 => ?_)
    refine z_aload_n (i := 0) hX d_S_add_33 rfl rfl ?_
    refine z_get (C := R_S) (T := F_S) (N := 5) hX in_S 1 rfl rfl 3 (by decide) w_field_S_19_S_3 rfl d_S_add_34 ?_
    refine z_iload (i := 5) hX d_S_add_37 rfl ?_
    refine z_iload (i := 4) hX d_S_add_39 rfl ?_
    refine z_iast (wl := zwC ad ca) (ex := ex) (x9 := (zI s32 4 (σ.1 120 0).toNatClampNeg x4)) hX 4 2 rfl rfl rfl d_S_add_41 (fun s41 => ?_)
    refine z_aload_n (i := 0) hX d_S_add_42 rfl rfl ?_
    refine z_dup hX d_S_add_43 rfl ?_
    refine z_get (C := R_S) (T := F_S) (N := 5) hX in_S 1 rfl rfl 0 (by decide) w_field_S_26_S_0 rfl d_S_add_44 ?_
    refine z_iconst (v := 1) hX d_S_add_47 (by decide) ?_
    refine z_iadd hX d_S_add_48 ?_
    refine z_put (C := R_S) (T := F_S) (N := 5) (wl := zwC ad ca) (ex := ex) (x9 := (zF s41 120 ((s41.1 120 0) + (1 : Int32)))) hX in_S t_S t_S_ok n_S 1 rfl rfl 0 (by decide) w_field_S_26_S_0 rfl rfl rfl (Nat.le_of_ble_eq_true rfl) rfl d_S_add_49 (fun s49 => ?_)
    refine z_iload (i := 5) hX d_S_add_52 rfl ?_
    exact z_iret hR d_S_add_54
  · refine z_iconst (v := -1) hX d_S_add_9 (by decide) ?_
    exact z_iret hR d_S_add_10
def fn_P_source (x1 : Int64) (x3 : Int32) (x4 : Int32) (σ : zS) : Option (Int32 × zS) := zb (fn_P_isUpTo x3 (7 : Int32) σ) (fun r3 s3 => if r3 = 0 then some ((-1 : Int32), s3) else zb (fn_S_add x1 x3 (x4 &&& (65535 : Int32)) s3) (fun r22 s22 => some (r22, s22)))
set_option maxRecDepth 100000 in
set_option maxHeartbeats 4000000 in
theorem ct_P_source (l : Launch) (D : va_G) (ad : Nat → Nat) (ca : Nat → ClassId) (x1 : Int64) (x3 : Int32) (x4 : Int32) (σ : zS) : zC zemI l y_P_source (Cond.code y_P_source b_P_source 5 (some .int) :: zTT) (zrm 1 25) D zcl (zKK D ca) (zwC ad ca) σ [.ref (ad 0), .long x1, .int x3, .int x4] (fn_P_source x1 x3 x4 σ) := by
  refine zmk_i (tys := zty ca) (by decide) (zKK_m D ca) (fun _ h => h.1) (Nat.le_of_ble_eq_true rfl) (fun V ex hX hR => ?_)
  show zJ V (zb (fn_P_isUpTo x3 (7 : Int32) σ) (fun r3 s3 => if r3 = 0 then some ((-1 : Int32), s3) else zb (fn_S_add x1 x3 (x4 &&& (65535 : Int32)) s3) (fun r22 s22 => some (r22, s22)))) (zwC ad ca σ ++ ex) 0 [(0, .ref (ad 0)), (1, .long x1), (3, .int x3), (4, .int x4)] []
  refine z_iload_n (i := 3) hX d_P_source_0 rfl rfl ?_
  refine z_bipush (v := 7) hX d_P_source_1 (by decide) ?_
  refine z_callSi (wl := zwC ad ca) (n := 2) (rest := []) hX [.int x3, .int (7 : Int32)] (ct_P_isUpTo l D ca (zwC ad ca) x3 (7 : Int32) σ) gS_P_47 ⟨rfl, rfl⟩ ⟨by decide, by decide⟩ (by decide +kernel) rfl rfl (Nat.le_of_ble_eq_true rfl) d_P_source_3 (fun r3 s3 => ?_)
  refine z_if_ne (tgt := 11) hX d_P_source_6 (by decide) (fun c6 => ?_) (fun c6 => ?_)
  · refine z_iconst (v := -1) hX d_P_source_9 (by decide) ?_
    exact z_iret hR d_P_source_10
  · refine z_aload_n (i := 0) hX d_P_source_11 rfl rfl ?_
    refine z_get (C := R_P) (T := F_P) (N := 7) hX in_P 0 rfl rfl 0 (by decide) w_field_P_10_P_0 rfl d_P_source_12 ?_
    refine z_lload_n (i := 1) hX d_P_source_15 rfl rfl ?_
    refine z_iload_n (i := 3) hX d_P_source_16 rfl rfl ?_
    refine z_iload (i := 4) hX d_P_source_17 rfl ?_
    refine z_ldc (v := 65535) hX w_const_P_51_65535 d_P_source_19 ?_
    refine z_iand hX d_P_source_21 ?_
    refine z_callVi (wl := zwC ad ca) (C := R_S) (n := 3) (rest := []) hX [.long x1, .int x3, .int (x4 &&& (65535 : Int32))] (ct_S_add l D ad ca x1 x3 (x4 &&& (65535 : Int32)) s3) gV_P_52 ⟨rfl, rfl⟩ ⟨by decide, by decide⟩ (by decide +kernel) rfl 1 rfl rfl rfl rfl (Nat.le_of_ble_eq_true rfl) d_P_source_22 (fun r22 s22 => ?_)
    exact z_iret hR d_P_source_25
def fn_S_has (x1 : Int32) (σ : zS) : Option (Int32 × zS) := if x1 < 0 then some ((0 : Int32), σ) else if x1 < (σ.1 120 0) then some ((1 : Int32), σ) else some ((0 : Int32), σ)
set_option maxRecDepth 100000 in
set_option maxHeartbeats 4000000 in
theorem ct_S_has (l : Launch) (D : va_G) (ad : Nat → Nat) (ca : Nat → ClassId) (x1 : Int32) (σ : zS) : zC zemI l y_S_has (Cond.code y_S_has b_S_has 2 (some .boolean) :: zTT) (zrm 0 0) D zcl (zKK D ca) (zwC ad ca) σ [.ref (ad 1), .int x1] (fn_S_has x1 σ) := by
  refine zmk_z (tys := zty ca) (by decide) (zKK_m D ca) (fun _ h => h.1) (Nat.le_of_ble_eq_true rfl) (fun V ex hX hR => ?_)
  show zJ V (if x1 < 0 then some ((0 : Int32), σ) else if x1 < (σ.1 120 0) then some ((1 : Int32), σ) else some ((0 : Int32), σ)) (zwC ad ca σ ++ ex) 0 [(0, .ref (ad 1)), (1, .int x1)] []
  refine z_iload_n (i := 1) hX d_S_has_0 rfl rfl ?_
  refine z_if_lt (tgt := 16) hX d_S_has_1 (by decide) (fun c1 => ?_) (fun c1 => ?_)
  · refine z_iconst (v := 0) hX d_S_has_16 (by decide) ?_
    exact z_zret hR rfl d_S_has_17
  · refine z_iload_n (i := 1) hX d_S_has_4 rfl rfl ?_
    refine z_aload_n (i := 0) hX d_S_has_5 rfl rfl ?_
    refine z_get (C := R_S) (T := F_S) (N := 5) hX in_S 1 rfl rfl 0 (by decide) w_field_S_26_S_0 rfl d_S_has_6 ?_
    refine z_icmp_ge (tgt := 16) hX d_S_has_9 (by decide) (fun c9 => ?_) (fun c9 => ?_)
    · refine z_iconst (v := 1) hX d_S_has_12 (by decide) ?_
      refine z_goto (tgt := 17) hX d_S_has_13 (by decide) ?_
      exact z_zret hR rfl d_S_has_17
    · refine z_iconst (v := 0) hX d_S_has_16 (by decide) ?_
      exact z_zret hR rfl d_S_has_17
def fn_P_fetched (x1 : Int32) (x2 : Int32) (σ : zS) : Option (Int32 × zS) := zb (fn_S_has x1 σ) (fun r5 s5 => if r5 = 0 then some ((0 : Int32), s5) else if x2 = 0 then zgd (zin x1 24) (zst (zI s5 5 x1.toNatClampNeg (vp_nar .boolean (1 : Int32))) (fun s30 => some ((1 : Int32), s30))) else zgd (zin x1 24) (zst (zI s5 5 x1.toNatClampNeg (vp_nar .boolean (0 : Int32))) (fun s30 => some ((1 : Int32), s30))))
set_option maxRecDepth 100000 in
set_option maxHeartbeats 4000000 in
theorem ct_P_fetched (l : Launch) (D : va_G) (ad : Nat → Nat) (ca : Nat → ClassId) (x1 : Int32) (x2 : Int32) (σ : zS) : zC zemI l y_P_fetched (Cond.code y_P_fetched b_P_fetched 3 (some .boolean) :: zTT) (zrm 1 21) D zcl (zKK D ca) (zwC ad ca) σ [.ref (ad 0), .int x1, .int x2] (fn_P_fetched x1 x2 σ) := by
  refine zmk_z (tys := zty ca) (by decide) (zKK_m D ca) (fun _ h => h.1) (Nat.le_of_ble_eq_true rfl) (fun V ex hX hR => ?_)
  show zJ V (zb (fn_S_has x1 σ) (fun r5 s5 => if r5 = 0 then some ((0 : Int32), s5) else if x2 = 0 then zgd (zin x1 24) (zst (zI s5 5 x1.toNatClampNeg (vp_nar .boolean (1 : Int32))) (fun s30 => some ((1 : Int32), s30))) else zgd (zin x1 24) (zst (zI s5 5 x1.toNatClampNeg (vp_nar .boolean (0 : Int32))) (fun s30 => some ((1 : Int32), s30))))) (zwC ad ca σ ++ ex) 0 [(0, .ref (ad 0)), (1, .int x1), (2, .int x2)] []
  refine z_aload_n (i := 0) hX d_P_fetched_0 rfl rfl ?_
  refine z_get (C := R_P) (T := F_P) (N := 7) hX in_P 0 rfl rfl 0 (by decide) w_field_P_10_P_0 rfl d_P_fetched_1 ?_
  refine z_iload_n (i := 1) hX d_P_fetched_4 rfl rfl ?_
  refine z_callVi (wl := zwC ad ca) (C := R_S) (n := 1) (rest := []) hX [.int x1] (ct_S_has l D ad ca x1 σ) gV_P_56 ⟨rfl, rfl⟩ ⟨by decide, by decide⟩ (by decide +kernel) rfl 1 rfl rfl rfl rfl (Nat.le_of_ble_eq_true rfl) d_P_fetched_5 (fun r5 s5 => ?_)
  refine z_if_ne (tgt := 13) hX d_P_fetched_8 (by decide) (fun c8 => ?_) (fun c8 => ?_)
  · refine z_iconst (v := 0) hX d_P_fetched_11 (by decide) ?_
    exact z_zret hR rfl d_P_fetched_12
  · refine z_aload_n (i := 0) hX d_P_fetched_13 rfl rfl ?_
    refine z_get (C := R_P) (T := F_P) (N := 7) hX in_P 0 rfl rfl 0 (by decide) w_field_P_10_P_0 rfl d_P_fetched_14 ?_
    refine z_get (C := R_S) (T := F_S) (N := 5) hX in_S 1 rfl rfl 4 (by decide) w_field_P_60_S_4 rfl d_P_fetched_17 ?_
    refine z_iload_n (i := 1) hX d_P_fetched_20 rfl rfl ?_
    refine z_iload_n (i := 2) hX d_P_fetched_21 rfl rfl ?_
    refine z_if_ne (tgt := 29) hX d_P_fetched_22 (by decide) (fun c22 => ?_) (fun c22 => ?_)
    · refine z_iconst (v := 1) hX d_P_fetched_25 (by decide) ?_
      refine z_goto (tgt := 30) hX d_P_fetched_26 (by decide) ?_
      refine z_zast (wl := zwC ad ca) (ex := ex) (x9 := (zI s5 5 x1.toNatClampNeg (vp_nar .boolean (1 : Int32)))) hX 5 3 rfl rfl rfl d_P_fetched_30 (fun s30 => ?_)
      refine z_iconst (v := 1) hX d_P_fetched_31 (by decide) ?_
      exact z_zret hR rfl d_P_fetched_32
    · refine z_iconst (v := 0) hX d_P_fetched_29 (by decide) ?_
      refine z_zast (wl := zwC ad ca) (ex := ex) (x9 := (zI s5 5 x1.toNatClampNeg (vp_nar .boolean (0 : Int32)))) hX 5 3 rfl rfl rfl d_P_fetched_30 (fun s30 => ?_)
      refine z_iconst (v := 1) hX d_P_fetched_31 (by decide) ?_
      exact z_zret hR rfl d_P_fetched_32
def fn_W_valueAt_n (x1 : Int32) (x2 : Int32) (σ : zS) : Option (Int64 × zS) := zgd (zin ((x1 * (6 : Int32)) + x2) 192) (some (σ.2 17 ((x1 * (6 : Int32)) + x2).toNatClampNeg, σ))
set_option maxRecDepth 100000 in
set_option maxHeartbeats 4000000 in
theorem ct_W_valueAt_n (l : Launch) (D : va_G) (ad : Nat → Nat) (ca : Nat → ClassId) (x1 : Int32) (x2 : Int32) (σ : zS) : zC zemL l y_W_valueAt (Cond.code y_W_valueAt b_W_valueAt 3 (some .long) :: zTT) (zrm 0 0) D zcl (zKK D ca) (zwC ad ca) σ [.ref (ad 15), .int x1, .int x2] (fn_W_valueAt_n x1 x2 σ) := by
  refine zmk_l (tys := zty ca) (by decide) (zKK_m D ca) (fun _ h => h.1) (Nat.le_of_ble_eq_true rfl) (fun V ex hX hR => ?_)
  show zJ V (zgd (zin ((x1 * (6 : Int32)) + x2) 192) (some (σ.2 17 ((x1 * (6 : Int32)) + x2).toNatClampNeg, σ))) (zwC ad ca σ ++ ex) 0 [(0, .ref (ad 15)), (1, .int x1), (2, .int x2)] []
  refine z_aload_n (i := 0) hX d_W_valueAt_0 rfl rfl ?_
  refine z_get (C := R_W) (T := F_W) (N := 2) hX in_W 15 rfl rfl 1 (by decide) w_field_W_15_W_1 rfl d_W_valueAt_1 ?_
  refine z_iload_n (i := 1) hX d_W_valueAt_4 rfl rfl ?_
  refine z_bipush (v := 6) hX d_W_valueAt_5 (by decide) ?_
  refine z_imul hX d_W_valueAt_7 ?_
  refine z_iload_n (i := 2) hX d_W_valueAt_8 rfl rfl ?_
  refine z_iadd hX d_W_valueAt_9 ?_
  refine z_lald hX 17 12 rfl rfl d_W_valueAt_10 ?_
  exact z_lret hR d_W_valueAt_11
def fn_A_metByAt (x1 : Int32) (x2 : Int32) (σ : zS) : Option (Int32 × zS) := zgd (zin ((x1 * (6 : Int32)) + x2) 192) (some (σ.1 18 ((x1 * (6 : Int32)) + x2).toNatClampNeg, σ))
set_option maxRecDepth 100000 in
set_option maxHeartbeats 4000000 in
theorem ct_A_metByAt (l : Launch) (D : va_G) (ad : Nat → Nat) (ca : Nat → ClassId) (x1 : Int32) (x2 : Int32) (σ : zS) : zC zemI l y_A_metByAt (Cond.code y_A_metByAt b_A_metByAt 3 (some .int) :: zTT) (zrm 0 0) D zcl (zKK D ca) (zwC ad ca) σ [.ref (ad 6), .int x1, .int x2] (fn_A_metByAt x1 x2 σ) := by
  refine zmk_i (tys := zty ca) (by decide) (zKK_m D ca) (fun _ h => h.1) (Nat.le_of_ble_eq_true rfl) (fun V ex hX hR => ?_)
  show zJ V (zgd (zin ((x1 * (6 : Int32)) + x2) 192) (some (σ.1 18 ((x1 * (6 : Int32)) + x2).toNatClampNeg, σ))) (zwC ad ca σ ++ ex) 0 [(0, .ref (ad 6)), (1, .int x1), (2, .int x2)] []
  refine z_aload_n (i := 0) hX d_A_metByAt_0 rfl rfl ?_
  refine z_get (C := R_A) (T := F_A) (N := 11) hX in_A 6 rfl rfl 8 (by decide) w_field_A_38_A_8 rfl d_A_metByAt_1 ?_
  refine z_iload_n (i := 1) hX d_A_metByAt_4 rfl rfl ?_
  refine z_bipush (v := 6) hX d_A_metByAt_5 (by decide) ?_
  refine z_imul hX d_A_metByAt_7 ?_
  refine z_iload_n (i := 2) hX d_A_metByAt_8 rfl rfl ?_
  refine z_iadd hX d_A_metByAt_9 ?_
  refine z_iald hX 18 13 rfl rfl d_A_metByAt_10 ?_
  exact z_iret hR d_A_metByAt_11
def fn_A_meetMissing_49 (k2 : Int32 → Int32 → zS → Option (Unit × zS)) (k12 : Int32 → Int32 → Int32 → zS → Option (Unit × zS)) (x1 : Int32) (x2 : Int32) (x3 : Int32) (y0 : Int32) (σ : zS) : Option (Unit × zS) := if y0 = 0 then k12 x1 x2 (x3 + 1) σ else zb (fn_A_metByAt x2 x3 σ) (fun r59 s59 => if r59 = (-1 : Int32) then zgd (zin ((x2 * (6 : Int32)) + x3) 192) (zst (zI s59 18 ((x2 * (6 : Int32)) + x3).toNatClampNeg x1) (fun s77 => k12 x1 x2 (x3 + 1) s77)) else k12 x1 x2 (x3 + 1) s59)
set_option maxRecDepth 100000 in
set_option maxHeartbeats 4000000 in
theorem bk_A_meetMissing_49 (l : Launch) (D : va_G) (ad : Nat → Nat) (ca : Nat → ClassId) {V : zV Unit} {ex : va_W} (hX : zIs V l b_A_meetMissing R_A zTT (zKK D ca) D zcl (zty ca) 5 (zrm 1 22)) (hR : zRv V b_A_meetMissing (zwC ad ca) ex) (k2 : Int32 → Int32 → zS → Option (Unit × zS)) (hk2 : ∀ (z1 : Int32) (z2 : Int32) (σ : zS), zJ V (k2 z1 z2 σ) (zwC ad ca σ ++ ex) 2 [(0, .ref (ad 6)), (1, .int z1), (2, .int z2)] []) (k12 : Int32 → Int32 → Int32 → zS → Option (Unit × zS)) (hk12 : ∀ (z1 : Int32) (z2 : Int32) (z3 : Int32) (σ : zS), zJ V (k12 z1 z2 z3 σ) (zwC ad ca σ ++ ex) 12 [(0, .ref (ad 6)), (1, .int z1), (2, .int z2), (3, .int z3)] []) : ∀ (x1 : Int32) (x2 : Int32) (x3 : Int32) (y0 : Int32) (σ : zS), zJ V (fn_A_meetMissing_49 k2 k12 x1 x2 x3 y0 σ) (zwC ad ca σ ++ ex) 49 [(0, .ref (ad 6)), (1, .int x1), (2, .int x2), (3, .int x3)] [.int y0] := by
  intro x1 x2 x3 y0 σ
  show zJ V (if y0 = 0 then k12 x1 x2 (x3 + 1) σ else zb (fn_A_metByAt x2 x3 σ) (fun r59 s59 => if r59 = (-1 : Int32) then zgd (zin ((x2 * (6 : Int32)) + x3) 192) (zst (zI s59 18 ((x2 * (6 : Int32)) + x3).toNatClampNeg x1) (fun s77 => k12 x1 x2 (x3 + 1) s77)) else k12 x1 x2 (x3 + 1) s59)) _ _ _ _
  refine z_istore (i := 4) (lv2 := [(4, .int y0), (0, .ref (ad 6)), (1, .int x1), (2, .int x2), (3, .int x3)]) hX d_A_meetMissing_49 (by decide) rfl ?_
  refine z_iload (i := 4) hX d_A_meetMissing_51 rfl ?_
  refine z_if_eq (tgt := 78) hX d_A_meetMissing_53 (by decide) (fun c53 => ?_) (fun c53 => ?_)
  · refine z_iinc (v := x3 + 1) (lv2 := [(3, .int (x3 + 1)), (4, .int y0), (0, .ref (ad 6)), (1, .int x1), (2, .int x2)]) hX d_A_meetMissing_78 4 rfl (by first | rfl | decide) (by decide) rfl ?_
    refine z_goto (tgt := 12) hX d_A_meetMissing_81 (by decide) ?_
    refine z_lv hX [2, 3, 4, 0] (lv2 := [(0, .ref (ad 6)), (1, .int x1), (2, .int x2), (3, .int (x3 + 1))]) rfl ?_
    exact hk12 _ _ _ _
  · refine z_aload_n (i := 0) hX d_A_meetMissing_56 rfl rfl ?_
    refine z_iload_n (i := 2) hX d_A_meetMissing_57 rfl rfl ?_
    refine z_iload_n (i := 3) hX d_A_meetMissing_58 rfl rfl ?_
    refine z_callVi (wl := zwC ad ca) (C := R_A) (n := 2) (rest := []) hX [.int x2, .int x3] (ct_A_metByAt l D ad ca x2 x3 σ) gV_A_62 ⟨rfl, rfl⟩ ⟨by decide, by decide⟩ (by decide +kernel) rfl 6 rfl rfl rfl rfl (Nat.le_of_ble_eq_true rfl) d_A_meetMissing_59 (fun r59 s59 => ?_)
    refine z_iconst (v := -1) hX d_A_meetMissing_62 (by decide) ?_
    refine z_icmp_ne (tgt := 78) hX d_A_meetMissing_63 (by decide) (fun c63 => ?_) (fun c63 => ?_)
    · refine z_aload_n (i := 0) hX d_A_meetMissing_66 rfl rfl ?_
      refine z_get (C := R_A) (T := F_A) (N := 11) hX in_A 6 rfl rfl 8 (by decide) w_field_A_38_A_8 rfl d_A_meetMissing_67 ?_
      refine z_iload_n (i := 2) hX d_A_meetMissing_70 rfl rfl ?_
      refine z_bipush (v := 6) hX d_A_meetMissing_71 (by decide) ?_
      refine z_imul hX d_A_meetMissing_73 ?_
      refine z_iload_n (i := 3) hX d_A_meetMissing_74 rfl rfl ?_
      refine z_iadd hX d_A_meetMissing_75 ?_
      refine z_iload_n (i := 1) hX d_A_meetMissing_76 rfl rfl ?_
      refine z_iast (wl := zwC ad ca) (ex := ex) (x9 := (zI s59 18 ((x2 * (6 : Int32)) + x3).toNatClampNeg x1)) hX 18 13 rfl rfl rfl d_A_meetMissing_77 (fun s77 => ?_)
      refine z_iinc (v := x3 + 1) (lv2 := [(3, .int (x3 + 1)), (4, .int y0), (0, .ref (ad 6)), (1, .int x1), (2, .int x2)]) hX d_A_meetMissing_78 4 rfl (by first | rfl | decide) (by decide) rfl ?_
      refine z_goto (tgt := 12) hX d_A_meetMissing_81 (by decide) ?_
      refine z_lv hX [2, 3, 4, 0] (lv2 := [(0, .ref (ad 6)), (1, .int x1), (2, .int x2), (3, .int (x3 + 1))]) rfl ?_
      exact hk12 _ _ _ _
    · refine z_iinc (v := x3 + 1) (lv2 := [(3, .int (x3 + 1)), (4, .int y0), (0, .ref (ad 6)), (1, .int x1), (2, .int x2)]) hX d_A_meetMissing_78 4 rfl (by first | rfl | decide) (by decide) rfl ?_
      refine z_goto (tgt := 12) hX d_A_meetMissing_81 (by decide) ?_
      refine z_lv hX [2, 3, 4, 0] (lv2 := [(0, .ref (ad 6)), (1, .int x1), (2, .int x2), (3, .int (x3 + 1))]) rfl ?_
      exact hk12 _ _ _ _
def fn_A_meetMissing_12 (k2 : Int32 → Int32 → zS → Option (Unit × zS)) : Nat → Int32 → Int32 → Int32 → zS → Option (Unit × zS)
  | 0, _, _, _, _ => none
  | n + 1, x1, x2, x3, σ => zgd (zin x2 32) (if x3 < (σ.1 16 x2.toNatClampNeg) then zb (fn_W_valueAt_n x2 x3 σ) (fun r31 s31 => zgd (zin x1 32) (if (lg_cmp r31 (s31.2 7 x1.toNatClampNeg)) = 0 then fn_A_meetMissing_49 k2 (fn_A_meetMissing_12 k2 n) x1 x2 x3 (1 : Int32) s31 else fn_A_meetMissing_49 k2 (fn_A_meetMissing_12 k2 n) x1 x2 x3 (0 : Int32) s31)) else k2 x1 (x2 + 1) σ)
set_option maxRecDepth 100000 in
set_option maxHeartbeats 4000000 in
theorem bk_A_meetMissing_12 (l : Launch) (D : va_G) (ad : Nat → Nat) (ca : Nat → ClassId) {V : zV Unit} {ex : va_W} (hX : zIs V l b_A_meetMissing R_A zTT (zKK D ca) D zcl (zty ca) 5 (zrm 1 22)) (hR : zRv V b_A_meetMissing (zwC ad ca) ex) (k2 : Int32 → Int32 → zS → Option (Unit × zS)) (hk2 : ∀ (z1 : Int32) (z2 : Int32) (σ : zS), zJ V (k2 z1 z2 σ) (zwC ad ca σ ++ ex) 2 [(0, .ref (ad 6)), (1, .int z1), (2, .int z2)] []) : ∀ (n : Nat) (x1 : Int32) (x2 : Int32) (x3 : Int32) (σ : zS), zJ V (fn_A_meetMissing_12 k2 n x1 x2 x3 σ) (zwC ad ca σ ++ ex) 12 [(0, .ref (ad 6)), (1, .int x1), (2, .int x2), (3, .int x3)] [] := by
  intro n
  induction n with
  | zero => intros; exact z_none
  | succ n ih =>
    intro x1 x2 x3 σ
    show zJ V (zgd (zin x2 32) (if x3 < (σ.1 16 x2.toNatClampNeg) then zb (fn_W_valueAt_n x2 x3 σ) (fun r31 s31 => zgd (zin x1 32) (if (lg_cmp r31 (s31.2 7 x1.toNatClampNeg)) = 0 then fn_A_meetMissing_49 k2 (fn_A_meetMissing_12 k2 n) x1 x2 x3 (1 : Int32) s31 else fn_A_meetMissing_49 k2 (fn_A_meetMissing_12 k2 n) x1 x2 x3 (0 : Int32) s31)) else k2 x1 (x2 + 1) σ)) _ _ _ _
    refine z_iload_n (i := 3) hX d_A_meetMissing_12 rfl rfl ?_
    refine z_aload_n (i := 0) hX d_A_meetMissing_13 rfl rfl ?_
    refine z_get (C := R_A) (T := F_A) (N := 11) hX in_A 6 rfl rfl 7 (by decide) w_field_A_35_A_7 rfl d_A_meetMissing_14 ?_
    refine z_get (C := R_W) (T := F_W) (N := 2) hX in_W 15 rfl rfl 0 (by decide) w_field_A_55_W_0 rfl d_A_meetMissing_17 ?_
    refine z_iload_n (i := 2) hX d_A_meetMissing_20 rfl rfl ?_
    refine z_iald hX 16 11 rfl rfl d_A_meetMissing_21 ?_
    refine z_icmp_ge (tgt := 84) hX d_A_meetMissing_22 (by decide) (fun c22 => ?_) (fun c22 => ?_)
    · refine z_aload_n (i := 0) hX d_A_meetMissing_25 rfl rfl ?_
      refine z_get (C := R_A) (T := F_A) (N := 11) hX in_A 6 rfl rfl 7 (by decide) w_field_A_35_A_7 rfl d_A_meetMissing_26 ?_
      refine z_iload_n (i := 2) hX d_A_meetMissing_29 rfl rfl ?_
      refine z_iload_n (i := 3) hX d_A_meetMissing_30 rfl rfl ?_
      refine z_callVl (wl := zwC ad ca) (C := R_W) (n := 2) (rest := []) hX [.int x2, .int x3] (ct_W_valueAt_n l D ad ca x2 x3 σ) gV_A_58 ⟨rfl, rfl⟩ ⟨by decide, by decide⟩ (by decide +kernel) rfl 15 rfl rfl rfl rfl (Nat.le_of_ble_eq_true rfl) d_A_meetMissing_31 (fun r31 s31 => ?_)
      refine z_aload_n (i := 0) hX d_A_meetMissing_34 rfl rfl ?_
      refine z_get (C := R_A) (T := F_A) (N := 11) hX in_A 6 rfl rfl 1 (by decide) w_field_A_9_A_1 rfl d_A_meetMissing_35 ?_
      refine z_iload_n (i := 1) hX d_A_meetMissing_38 rfl rfl ?_
      refine z_lald hX 7 4 rfl rfl d_A_meetMissing_39 ?_
      refine z_lcmp hX d_A_meetMissing_40 ?_
      refine z_if_ne (tgt := 48) hX d_A_meetMissing_41 (by decide) (fun c41 => ?_) (fun c41 => ?_)
      · refine z_iconst (v := 1) hX d_A_meetMissing_44 (by decide) ?_
        refine z_goto (tgt := 49) hX d_A_meetMissing_45 (by decide) ?_
        exact bk_A_meetMissing_49 l D ad ca hX hR k2 hk2 (fn_A_meetMissing_12 k2 n) ih _ _ _ _ _
      · refine z_iconst (v := 0) hX d_A_meetMissing_48 (by decide) ?_
        exact bk_A_meetMissing_49 l D ad ca hX hR k2 hk2 (fn_A_meetMissing_12 k2 n) ih _ _ _ _ _
    · refine z_iinc (v := x2 + 1) (lv2 := [(2, .int (x2 + 1)), (0, .ref (ad 6)), (1, .int x1), (3, .int x3)]) hX d_A_meetMissing_84 2 rfl (by first | rfl | decide) (by decide) rfl ?_
      refine z_goto (tgt := 2) hX d_A_meetMissing_87 (by decide) ?_
      refine z_lv hX [1, 2, 0] (lv2 := [(0, .ref (ad 6)), (1, .int x1), (2, .int (x2 + 1))]) rfl ?_
      exact hk2 _ _ _
def fn_A_meetMissing_2 : Nat → Int32 → Int32 → zS → Option (Unit × zS)
  | 0, _, _, _ => none
  | n + 1, x1, x2, σ => if x2 < (σ.1 220 0) then fn_A_meetMissing_12 (fn_A_meetMissing_2 n) 100 x1 x2 (0 : Int32) σ else some ((), σ)
set_option maxRecDepth 100000 in
set_option maxHeartbeats 4000000 in
theorem bk_A_meetMissing_2 (l : Launch) (D : va_G) (ad : Nat → Nat) (ca : Nat → ClassId) {V : zV Unit} {ex : va_W} (hX : zIs V l b_A_meetMissing R_A zTT (zKK D ca) D zcl (zty ca) 5 (zrm 1 22)) (hR : zRv V b_A_meetMissing (zwC ad ca) ex) : ∀ (n : Nat) (x1 : Int32) (x2 : Int32) (σ : zS), zJ V (fn_A_meetMissing_2 n x1 x2 σ) (zwC ad ca σ ++ ex) 2 [(0, .ref (ad 6)), (1, .int x1), (2, .int x2)] [] := by
  intro n
  induction n with
  | zero => intros; exact z_none
  | succ n ih =>
    intro x1 x2 σ
    show zJ V (if x2 < (σ.1 220 0) then fn_A_meetMissing_12 (fn_A_meetMissing_2 n) 100 x1 x2 (0 : Int32) σ else some ((), σ)) _ _ _ _
    refine z_iload_n (i := 2) hX d_A_meetMissing_2 rfl rfl ?_
    refine z_aload_n (i := 0) hX d_A_meetMissing_3 rfl rfl ?_
    refine z_get (C := R_A) (T := F_A) (N := 11) hX in_A 6 rfl rfl 0 (by decide) w_field_A_47_A_0 rfl d_A_meetMissing_4 ?_
    refine z_icmp_ge (tgt := 90) hX d_A_meetMissing_7 (by decide) (fun c7 => ?_) (fun c7 => ?_)
    · refine z_iconst (v := 0) hX d_A_meetMissing_10 (by decide) ?_
      refine z_istore_n (i := 3) (lv2 := [(3, .int (0 : Int32)), (0, .ref (ad 6)), (1, .int x1), (2, .int x2)]) hX d_A_meetMissing_11 rfl (by decide) rfl ?_
      refine z_lv hX [1, 2, 3, 0] (lv2 := [(0, .ref (ad 6)), (1, .int x1), (2, .int x2), (3, .int (0 : Int32))]) rfl ?_
      exact bk_A_meetMissing_12 l D ad ca hX hR (fn_A_meetMissing_2 n) ih 100 _ _ _ _
    · exact z_vret hR d_A_meetMissing_90
def fn_A_meetMissing (x1 : Int32) (σ : zS) : Option (Unit × zS) := fn_A_meetMissing_2 100 x1 (0 : Int32) σ
set_option maxRecDepth 100000 in
set_option maxHeartbeats 4000000 in
theorem ct_A_meetMissing (l : Launch) (D : va_G) (ad : Nat → Nat) (ca : Nat → ClassId) (x1 : Int32) (σ : zS) : zC zemV l y_A_meetMissing (Cond.code y_A_meetMissing b_A_meetMissing 5 none :: zTT) (zrm 1 22) D zcl (zKK D ca) (zwC ad ca) σ [.ref (ad 6), .int x1] (fn_A_meetMissing x1 σ) := by
  refine zmk_v (tys := zty ca) (by decide) (zKK_m D ca) (fun _ h => h.1) (Nat.le_of_ble_eq_true rfl) (fun V ex hX hR => ?_)
  show zJ V (fn_A_meetMissing_2 100 x1 (0 : Int32) σ) (zwC ad ca σ ++ ex) 0 [(0, .ref (ad 6)), (1, .int x1)] []
  refine z_iconst (v := 0) hX d_A_meetMissing_0 (by decide) ?_
  refine z_istore_n (i := 2) (lv2 := [(2, .int (0 : Int32)), (0, .ref (ad 6)), (1, .int x1)]) hX d_A_meetMissing_1 rfl (by decide) rfl ?_
  refine z_lv hX [1, 2, 0] (lv2 := [(0, .ref (ad 6)), (1, .int x1), (2, .int (0 : Int32))]) rfl ?_
  exact bk_A_meetMissing_2 l D ad ca hX hR 100 _ _ _
def fn_A_add (x1 : Int64) (x3 : Int32) (x4 : Int32) (x5 : Int32) (x6 : Int32) (σ : zS) : Option (Int32 × zS) := if (σ.1 220 0) < (32 : Int32) then zgd (zin (σ.1 220 0) 32) (zst (zL σ 7 (σ.1 220 0).toNatClampNeg x1) (fun s24 => zgd (zin (σ.1 220 0) 32) (zst (zI s24 8 (σ.1 220 0).toNatClampNeg x3) (fun s32 => zgd (zin (σ.1 220 0) 32) (zst (zI s32 9 (σ.1 220 0).toNatClampNeg x4) (fun s41 => zgd (zin (σ.1 220 0) 32) (zst (zI s41 10 (σ.1 220 0).toNatClampNeg x5) (fun s50 => zgd (zin (σ.1 220 0) 32) (zst (zI s50 11 (σ.1 220 0).toNatClampNeg x6) (fun s59 => zst (zF s59 220 ((s59.1 220 0) + (1 : Int32))) (fun s67 => zb (fn_A_meetMissing (σ.1 220 0) s67) (fun r73 s73 => some (σ.1 220 0, s73))))))))))))) else some ((-1 : Int32), σ)
set_option maxRecDepth 100000 in
set_option maxHeartbeats 4000000 in
theorem ct_A_add (l : Launch) (D : va_G) (ad : Nat → Nat) (ca : Nat → ClassId) (x1 : Int64) (x3 : Int32) (x4 : Int32) (x5 : Int32) (x6 : Int32) (σ : zS) : zC zemI l y_A_add (Cond.code y_A_add b_A_add 8 (some .int) :: zTT) (zrm 2 46) D zcl (zKK D ca) (zwC ad ca) σ [.ref (ad 6), .long x1, .int x3, .int x4, .int x5, .int x6] (fn_A_add x1 x3 x4 x5 x6 σ) := by
  refine zmk_i (tys := zty ca) (by decide) (zKK_m D ca) (fun _ h => h.1) (Nat.le_of_ble_eq_true rfl) (fun V ex hX hR => ?_)
  show zJ V (if (σ.1 220 0) < (32 : Int32) then zgd (zin (σ.1 220 0) 32) (zst (zL σ 7 (σ.1 220 0).toNatClampNeg x1) (fun s24 => zgd (zin (σ.1 220 0) 32) (zst (zI s24 8 (σ.1 220 0).toNatClampNeg x3) (fun s32 => zgd (zin (σ.1 220 0) 32) (zst (zI s32 9 (σ.1 220 0).toNatClampNeg x4) (fun s41 => zgd (zin (σ.1 220 0) 32) (zst (zI s41 10 (σ.1 220 0).toNatClampNeg x5) (fun s50 => zgd (zin (σ.1 220 0) 32) (zst (zI s50 11 (σ.1 220 0).toNatClampNeg x6) (fun s59 => zst (zF s59 220 ((s59.1 220 0) + (1 : Int32))) (fun s67 => zb (fn_A_meetMissing (σ.1 220 0) s67) (fun r73 s73 => some (σ.1 220 0, s73))))))))))))) else some ((-1 : Int32), σ)) (zwC ad ca σ ++ ex) 0 [(0, .ref (ad 6)), (1, .long x1), (3, .int x3), (4, .int x4), (5, .int x5), (6, .int x6)] []
  refine z_aload_n (i := 0) hX d_A_add_0 rfl rfl ?_
  refine z_get (C := R_A) (T := F_A) (N := 11) hX in_A 6 rfl rfl 0 (by decide) w_field_A_47_A_0 rfl d_A_add_1 ?_
  refine z_bipush (v := 32) hX d_A_add_4 (by decide) ?_
  refine z_icmp_lt (tgt := 11) hX d_A_add_6 (by decide) (fun c6 => ?_) (fun c6 => ?_)
  · refine z_aload_n (i := 0) hX d_A_add_11 rfl rfl ?_
    refine z_get (C := R_A) (T := F_A) (N := 11) hX in_A 6 rfl rfl 0 (by decide) w_field_A_47_A_0 rfl d_A_add_12 ?_
    refine z_istore (i := 7) (lv2 := [(7, .int (σ.1 220 0)), (0, .ref (ad 6)), (1, .long x1), (3, .int x3), (4, .int x4), (5, .int x5), (6, .int x6)]) hX d_A_add_15 (by decide) rfl ?_
    refine z_aload_n (i := 0) hX d_A_add_17 rfl rfl ?_
    refine z_get (C := R_A) (T := F_A) (N := 11) hX in_A 6 rfl rfl 1 (by decide) w_field_A_9_A_1 rfl d_A_add_18 ?_
    refine z_iload (i := 7) hX d_A_add_21 rfl ?_
    refine z_lload_n (i := 1) hX d_A_add_23 rfl rfl ?_
    refine z_last (wl := zwC ad ca) (ex := ex) (x9 := (zL σ 7 (σ.1 220 0).toNatClampNeg x1)) hX 7 4 rfl rfl rfl d_A_add_24 (fun s24 => ?_)
    refine z_aload_n (i := 0) hX d_A_add_25 rfl rfl ?_
    refine z_get (C := R_A) (T := F_A) (N := 11) hX in_A 6 rfl rfl 2 (by decide) w_field_A_15_A_2 rfl d_A_add_26 ?_
    refine z_iload (i := 7) hX d_A_add_29 rfl ?_
    refine z_iload_n (i := 3) hX d_A_add_31 rfl rfl ?_
    refine z_iast (wl := zwC ad ca) (ex := ex) (x9 := (zI s24 8 (σ.1 220 0).toNatClampNeg x3)) hX 8 5 rfl rfl rfl d_A_add_32 (fun s32 => ?_)
    refine z_aload_n (i := 0) hX d_A_add_33 rfl rfl ?_
    refine z_get (C := R_A) (T := F_A) (N := 11) hX in_A 6 rfl rfl 3 (by decide) w_field_A_19_A_3 rfl d_A_add_34 ?_
    refine z_iload (i := 7) hX d_A_add_37 rfl ?_
    refine z_iload (i := 4) hX d_A_add_39 rfl ?_
    refine z_iast (wl := zwC ad ca) (ex := ex) (x9 := (zI s32 9 (σ.1 220 0).toNatClampNeg x4)) hX 9 6 rfl rfl rfl d_A_add_41 (fun s41 => ?_)
    refine z_aload_n (i := 0) hX d_A_add_42 rfl rfl ?_
    refine z_get (C := R_A) (T := F_A) (N := 11) hX in_A 6 rfl rfl 4 (by decide) w_field_A_22_A_4 rfl d_A_add_43 ?_
    refine z_iload (i := 7) hX d_A_add_46 rfl ?_
    refine z_iload (i := 5) hX d_A_add_48 rfl ?_
    refine z_iast (wl := zwC ad ca) (ex := ex) (x9 := (zI s41 10 (σ.1 220 0).toNatClampNeg x5)) hX 10 7 rfl rfl rfl d_A_add_50 (fun s50 => ?_)
    refine z_aload_n (i := 0) hX d_A_add_51 rfl rfl ?_
    refine z_get (C := R_A) (T := F_A) (N := 11) hX in_A 6 rfl rfl 5 (by decide) w_field_A_25_A_5 rfl d_A_add_52 ?_
    refine z_iload (i := 7) hX d_A_add_55 rfl ?_
    refine z_iload (i := 6) hX d_A_add_57 rfl ?_
    refine z_iast (wl := zwC ad ca) (ex := ex) (x9 := (zI s50 11 (σ.1 220 0).toNatClampNeg x6)) hX 11 8 rfl rfl rfl d_A_add_59 (fun s59 => ?_)
    refine z_aload_n (i := 0) hX d_A_add_60 rfl rfl ?_
    refine z_dup hX d_A_add_61 rfl ?_
    refine z_get (C := R_A) (T := F_A) (N := 11) hX in_A 6 rfl rfl 0 (by decide) w_field_A_47_A_0 rfl d_A_add_62 ?_
    refine z_iconst (v := 1) hX d_A_add_65 (by decide) ?_
    refine z_iadd hX d_A_add_66 ?_
    refine z_put (C := R_A) (T := F_A) (N := 11) (wl := zwC ad ca) (ex := ex) (x9 := (zF s59 220 ((s59.1 220 0) + (1 : Int32)))) hX in_A t_A t_A_ok n_A 6 rfl rfl 0 (by decide) w_field_A_47_A_0 rfl rfl rfl (Nat.le_of_ble_eq_true rfl) rfl d_A_add_67 (fun s67 => ?_)
    refine z_aload_n (i := 0) hX d_A_add_70 rfl rfl ?_
    refine z_iload (i := 7) hX d_A_add_71 rfl ?_
    refine z_callVv (wl := zwC ad ca) (C := R_A) (n := 1) (rest := []) hX [.int (σ.1 220 0)] (ct_A_meetMissing l D ad ca (σ.1 220 0) s67) gV_A_51 ⟨rfl, rfl⟩ ⟨by decide, by decide⟩ (by decide +kernel) rfl 6 rfl rfl rfl rfl (Nat.le_of_ble_eq_true rfl) d_A_add_73 (fun r73 s73 => ?_)
    refine z_iload (i := 7) hX d_A_add_76 rfl ?_
    exact z_iret hR d_A_add_78
  · refine z_iconst (v := -1) hX d_A_add_9 (by decide) ?_
    exact z_iret hR d_A_add_10
def fn_P_artefact_19 (x1 : Int64) (x3 : Int32) (x4 : Int32) (x5 : Int32) (x6 : Int32) (y0 : Int32) (σ : zS) : Option (Int32 × zS) := if y0 = 0 then some ((-1 : Int32), σ) else zb (fn_P_isUpTo x4 (7 : Int32) σ) (fun r30 s30 => if r30 = 0 then some ((-1 : Int32), s30) else zb (fn_P_isUpTo x5 (15 : Int32) s30) (fun r42 s42 => if r42 = 0 then some ((-1 : Int32), s42) else zb (fn_P_isUpTo x6 (1000000000 : Int32) s42) (fun r52 s52 => if r52 = 0 then some ((-1 : Int32), s52) else zb (fn_A_add x1 x3 x4 x5 x6 s52) (fun r72 s72 => some (r72, s72)))))
set_option maxRecDepth 100000 in
set_option maxHeartbeats 4000000 in
theorem bk_P_artefact_19 (l : Launch) (D : va_G) (ad : Nat → Nat) (ca : Nat → ClassId) {V : zV Int32} {ex : va_W} (hX : zIs V l b_P_artefact R_P zTT (zKK D ca) D zcl (zty ca) 8 (zrm 3 73)) (hR : zRi V b_P_artefact (zwC ad ca) ex) : ∀ (x1 : Int64) (x3 : Int32) (x4 : Int32) (x5 : Int32) (x6 : Int32) (y0 : Int32) (σ : zS), zJ V (fn_P_artefact_19 x1 x3 x4 x5 x6 y0 σ) (zwC ad ca σ ++ ex) 19 [(0, .ref (ad 0)), (1, .long x1), (3, .int x3), (4, .int x4), (5, .int x5), (6, .int x6)] [.int y0] := by
  intro x1 x3 x4 x5 x6 y0 σ
  show zJ V (if y0 = 0 then some ((-1 : Int32), σ) else zb (fn_P_isUpTo x4 (7 : Int32) σ) (fun r30 s30 => if r30 = 0 then some ((-1 : Int32), s30) else zb (fn_P_isUpTo x5 (15 : Int32) s30) (fun r42 s42 => if r42 = 0 then some ((-1 : Int32), s42) else zb (fn_P_isUpTo x6 (1000000000 : Int32) s42) (fun r52 s52 => if r52 = 0 then some ((-1 : Int32), s52) else zb (fn_A_add x1 x3 x4 x5 x6 s52) (fun r72 s72 => some (r72, s72)))))) _ _ _ _
  refine z_istore (i := 7) (lv2 := [(7, .int y0), (0, .ref (ad 0)), (1, .long x1), (3, .int x3), (4, .int x4), (5, .int x5), (6, .int x6)]) hX d_P_artefact_19 (by decide) rfl ?_
  refine z_iload (i := 7) hX d_P_artefact_21 rfl ?_
  refine z_if_eq (tgt := 36) hX d_P_artefact_23 (by decide) (fun c23 => ?_) (fun c23 => ?_)
  · refine z_iconst (v := -1) hX d_P_artefact_36 (by decide) ?_
    exact z_iret hR d_P_artefact_37
  · refine z_iload (i := 4) hX d_P_artefact_26 rfl ?_
    refine z_bipush (v := 7) hX d_P_artefact_28 (by decide) ?_
    refine z_callSi (wl := zwC ad ca) (n := 2) (rest := []) hX [.int x4, .int (7 : Int32)] (ct_P_isUpTo l D ca (zwC ad ca) x4 (7 : Int32) σ) gS_P_47 ⟨rfl, rfl⟩ ⟨by decide, by decide⟩ (by decide +kernel) rfl rfl (Nat.le_of_ble_eq_true rfl) d_P_artefact_30 (fun r30 s30 => ?_)
    refine z_if_ne (tgt := 38) hX d_P_artefact_33 (by decide) (fun c33 => ?_) (fun c33 => ?_)
    · refine z_iconst (v := -1) hX d_P_artefact_36 (by decide) ?_
      exact z_iret hR d_P_artefact_37
    · refine z_iload (i := 5) hX d_P_artefact_38 rfl ?_
      refine z_bipush (v := 15) hX d_P_artefact_40 (by decide) ?_
      refine z_callSi (wl := zwC ad ca) (n := 2) (rest := []) hX [.int x5, .int (15 : Int32)] (ct_P_isUpTo l D ca (zwC ad ca) x5 (15 : Int32) s30) gS_P_47 ⟨rfl, rfl⟩ ⟨by decide, by decide⟩ (by decide +kernel) rfl rfl (Nat.le_of_ble_eq_true rfl) d_P_artefact_42 (fun r42 s42 => ?_)
      refine z_if_eq (tgt := 58) hX d_P_artefact_45 (by decide) (fun c45 => ?_) (fun c45 => ?_)
      · refine z_iconst (v := -1) hX d_P_artefact_58 (by decide) ?_
        exact z_iret hR d_P_artefact_59
      · refine z_iload (i := 6) hX d_P_artefact_48 rfl ?_
        refine z_ldc (v := 1000000000) hX w_const_P_64_1000000000 d_P_artefact_50 ?_
        refine z_callSi (wl := zwC ad ca) (n := 2) (rest := []) hX [.int x6, .int (1000000000 : Int32)] (ct_P_isUpTo l D ca (zwC ad ca) x6 (1000000000 : Int32) s42) gS_P_47 ⟨rfl, rfl⟩ ⟨by decide, by decide⟩ (by decide +kernel) rfl rfl (Nat.le_of_ble_eq_true rfl) d_P_artefact_52 (fun r52 s52 => ?_)
        refine z_if_ne (tgt := 60) hX d_P_artefact_55 (by decide) (fun c55 => ?_) (fun c55 => ?_)
        · refine z_iconst (v := -1) hX d_P_artefact_58 (by decide) ?_
          exact z_iret hR d_P_artefact_59
        · refine z_aload_n (i := 0) hX d_P_artefact_60 rfl rfl ?_
          refine z_get (C := R_P) (T := F_P) (N := 7) hX in_P 0 rfl rfl 1 (by decide) w_field_P_19_P_1 rfl d_P_artefact_61 ?_
          refine z_lload_n (i := 1) hX d_P_artefact_64 rfl rfl ?_
          refine z_iload_n (i := 3) hX d_P_artefact_65 rfl rfl ?_
          refine z_iload (i := 4) hX d_P_artefact_66 rfl ?_
          refine z_iload (i := 5) hX d_P_artefact_68 rfl ?_
          refine z_iload (i := 6) hX d_P_artefact_70 rfl ?_
          refine z_callVi (wl := zwC ad ca) (C := R_A) (n := 5) (rest := []) hX [.long x1, .int x3, .int x4, .int x5, .int x6] (ct_A_add l D ad ca x1 x3 x4 x5 x6 s52) gV_P_65 ⟨rfl, rfl⟩ ⟨by decide, by decide⟩ (by decide +kernel) rfl 6 rfl rfl rfl rfl (Nat.le_of_ble_eq_true rfl) d_P_artefact_72 (fun r72 s72 => ?_)
          exact z_iret hR d_P_artefact_75
def fn_P_artefact_14 (x1 : Int64) (x3 : Int32) (x4 : Int32) (x5 : Int32) (x6 : Int32) (σ : zS) : Option (Int32 × zS) := fn_P_artefact_19 x1 x3 x4 x5 x6 (1 : Int32) σ
set_option maxRecDepth 100000 in
set_option maxHeartbeats 4000000 in
theorem bk_P_artefact_14 (l : Launch) (D : va_G) (ad : Nat → Nat) (ca : Nat → ClassId) {V : zV Int32} {ex : va_W} (hX : zIs V l b_P_artefact R_P zTT (zKK D ca) D zcl (zty ca) 8 (zrm 3 73)) (hR : zRi V b_P_artefact (zwC ad ca) ex) : ∀ (x1 : Int64) (x3 : Int32) (x4 : Int32) (x5 : Int32) (x6 : Int32) (σ : zS), zJ V (fn_P_artefact_14 x1 x3 x4 x5 x6 σ) (zwC ad ca σ ++ ex) 14 [(0, .ref (ad 0)), (1, .long x1), (3, .int x3), (4, .int x4), (5, .int x5), (6, .int x6)] [] := by
  intro x1 x3 x4 x5 x6 σ
  show zJ V (fn_P_artefact_19 x1 x3 x4 x5 x6 (1 : Int32) σ) _ _ _ _
  refine z_iconst (v := 1) hX d_P_artefact_14 (by decide) ?_
  refine z_goto (tgt := 19) hX d_P_artefact_15 (by decide) ?_
  exact bk_P_artefact_19 l D ad ca hX hR _ _ _ _ _ _ _
def fn_P_artefact (x1 : Int64) (x3 : Int32) (x4 : Int32) (x5 : Int32) (x6 : Int32) (σ : zS) : Option (Int32 × zS) := if x3 = (-1 : Int32) then fn_P_artefact_14 x1 x3 x4 x5 x6 σ else zb (fn_P_isUpTo x3 (7 : Int32) σ) (fun r8 s8 => if r8 = 0 then fn_P_artefact_19 x1 x3 x4 x5 x6 (0 : Int32) s8 else fn_P_artefact_14 x1 x3 x4 x5 x6 s8)
set_option maxRecDepth 100000 in
set_option maxHeartbeats 4000000 in
theorem ct_P_artefact (l : Launch) (D : va_G) (ad : Nat → Nat) (ca : Nat → ClassId) (x1 : Int64) (x3 : Int32) (x4 : Int32) (x5 : Int32) (x6 : Int32) (σ : zS) : zC zemI l y_P_artefact (Cond.code y_P_artefact b_P_artefact 8 (some .int) :: zTT) (zrm 3 73) D zcl (zKK D ca) (zwC ad ca) σ [.ref (ad 0), .long x1, .int x3, .int x4, .int x5, .int x6] (fn_P_artefact x1 x3 x4 x5 x6 σ) := by
  refine zmk_i (tys := zty ca) (by decide) (zKK_m D ca) (fun _ h => h.1) (Nat.le_of_ble_eq_true rfl) (fun V ex hX hR => ?_)
  show zJ V (if x3 = (-1 : Int32) then fn_P_artefact_14 x1 x3 x4 x5 x6 σ else zb (fn_P_isUpTo x3 (7 : Int32) σ) (fun r8 s8 => if r8 = 0 then fn_P_artefact_19 x1 x3 x4 x5 x6 (0 : Int32) s8 else fn_P_artefact_14 x1 x3 x4 x5 x6 s8)) (zwC ad ca σ ++ ex) 0 [(0, .ref (ad 0)), (1, .long x1), (3, .int x3), (4, .int x4), (5, .int x5), (6, .int x6)] []
  refine z_iload_n (i := 3) hX d_P_artefact_0 rfl rfl ?_
  refine z_iconst (v := -1) hX d_P_artefact_1 (by decide) ?_
  refine z_icmp_eq (tgt := 14) hX d_P_artefact_2 (by decide) (fun c2 => ?_) (fun c2 => ?_)
  · exact bk_P_artefact_14 l D ad ca hX hR _ _ _ _ _ _
  · refine z_iload_n (i := 3) hX d_P_artefact_5 rfl rfl ?_
    refine z_bipush (v := 7) hX d_P_artefact_6 (by decide) ?_
    refine z_callSi (wl := zwC ad ca) (n := 2) (rest := []) hX [.int x3, .int (7 : Int32)] (ct_P_isUpTo l D ca (zwC ad ca) x3 (7 : Int32) σ) gS_P_47 ⟨rfl, rfl⟩ ⟨by decide, by decide⟩ (by decide +kernel) rfl rfl (Nat.le_of_ble_eq_true rfl) d_P_artefact_8 (fun r8 s8 => ?_)
    refine z_if_eq (tgt := 18) hX d_P_artefact_11 (by decide) (fun c11 => ?_) (fun c11 => ?_)
    · refine z_iconst (v := 0) hX d_P_artefact_18 (by decide) ?_
      exact bk_P_artefact_19 l D ad ca hX hR _ _ _ _ _ _ _
    · exact bk_P_artefact_14 l D ad ca hX hR _ _ _ _ _ _
def fn_A_has (x1 : Int32) (σ : zS) : Option (Int32 × zS) := if x1 < 0 then some ((0 : Int32), σ) else if x1 < (σ.1 220 0) then some ((1 : Int32), σ) else some ((0 : Int32), σ)
set_option maxRecDepth 100000 in
set_option maxHeartbeats 4000000 in
theorem ct_A_has (l : Launch) (D : va_G) (ad : Nat → Nat) (ca : Nat → ClassId) (x1 : Int32) (σ : zS) : zC zemI l y_A_has (Cond.code y_A_has b_A_has 2 (some .boolean) :: zTT) (zrm 0 0) D zcl (zKK D ca) (zwC ad ca) σ [.ref (ad 6), .int x1] (fn_A_has x1 σ) := by
  refine zmk_z (tys := zty ca) (by decide) (zKK_m D ca) (fun _ h => h.1) (Nat.le_of_ble_eq_true rfl) (fun V ex hX hR => ?_)
  show zJ V (if x1 < 0 then some ((0 : Int32), σ) else if x1 < (σ.1 220 0) then some ((1 : Int32), σ) else some ((0 : Int32), σ)) (zwC ad ca σ ++ ex) 0 [(0, .ref (ad 6)), (1, .int x1)] []
  refine z_iload_n (i := 1) hX d_A_has_0 rfl rfl ?_
  refine z_if_lt (tgt := 16) hX d_A_has_1 (by decide) (fun c1 => ?_) (fun c1 => ?_)
  · refine z_iconst (v := 0) hX d_A_has_16 (by decide) ?_
    exact z_zret hR rfl d_A_has_17
  · refine z_iload_n (i := 1) hX d_A_has_4 rfl rfl ?_
    refine z_aload_n (i := 0) hX d_A_has_5 rfl rfl ?_
    refine z_get (C := R_A) (T := F_A) (N := 11) hX in_A 6 rfl rfl 0 (by decide) w_field_A_47_A_0 rfl d_A_has_6 ?_
    refine z_icmp_ge (tgt := 16) hX d_A_has_9 (by decide) (fun c9 => ?_) (fun c9 => ?_)
    · refine z_iconst (v := 1) hX d_A_has_12 (by decide) ?_
      refine z_goto (tgt := 17) hX d_A_has_13 (by decide) ?_
      exact z_zret hR rfl d_A_has_17
    · refine z_iconst (v := 0) hX d_A_has_16 (by decide) ?_
      exact z_zret hR rfl d_A_has_17
def fn_W_valueAt_u (x1 : Int32) (x2 : Int32) (σ : zS) : Option (Int64 × zS) := zgd (zin ((x1 * (6 : Int32)) + x2) 192) (some (σ.2 14 ((x1 * (6 : Int32)) + x2).toNatClampNeg, σ))
set_option maxRecDepth 100000 in
set_option maxHeartbeats 4000000 in
theorem ct_W_valueAt_u (l : Launch) (D : va_G) (ad : Nat → Nat) (ca : Nat → ClassId) (x1 : Int32) (x2 : Int32) (σ : zS) : zC zemL l y_W_valueAt (Cond.code y_W_valueAt b_W_valueAt 3 (some .long) :: zTT) (zrm 0 0) D zcl (zKK D ca) (zwC ad ca) σ [.ref (ad 12), .int x1, .int x2] (fn_W_valueAt_u x1 x2 σ) := by
  refine zmk_l (tys := zty ca) (by decide) (zKK_m D ca) (fun _ h => h.1) (Nat.le_of_ble_eq_true rfl) (fun V ex hX hR => ?_)
  show zJ V (zgd (zin ((x1 * (6 : Int32)) + x2) 192) (some (σ.2 14 ((x1 * (6 : Int32)) + x2).toNatClampNeg, σ))) (zwC ad ca σ ++ ex) 0 [(0, .ref (ad 12)), (1, .int x1), (2, .int x2)] []
  refine z_aload_n (i := 0) hX d_W_valueAt_0 rfl rfl ?_
  refine z_get (C := R_W) (T := F_W) (N := 2) hX in_W 12 rfl rfl 1 (by decide) w_field_W_15_W_1 rfl d_W_valueAt_1 ?_
  refine z_iload_n (i := 1) hX d_W_valueAt_4 rfl rfl ?_
  refine z_bipush (v := 6) hX d_W_valueAt_5 (by decide) ?_
  refine z_imul hX d_W_valueAt_7 ?_
  refine z_iload_n (i := 2) hX d_W_valueAt_8 rfl rfl ?_
  refine z_iadd hX d_W_valueAt_9 ?_
  refine z_lald hX 14 10 rfl rfl d_W_valueAt_10 ?_
  exact z_lret hR d_W_valueAt_11
def fn_W_contains_u_3 : Nat → Int32 → Int64 → Int32 → zS → Option (Int32 × zS)
  | 0, _, _, _, _ => none
  | n + 1, x1, x2, x4, σ => zgd (zin x1 32) (if x4 < (σ.1 13 x1.toNatClampNeg) then zb (fn_W_valueAt_u x1 x4 σ) (fun r18 s18 => if (lg_cmp r18 x2) = 0 then some ((1 : Int32), s18) else fn_W_contains_u_3 n x1 x2 (x4 + 1) s18) else some ((0 : Int32), σ))
set_option maxRecDepth 100000 in
set_option maxHeartbeats 4000000 in
theorem bk_W_contains_u_3 (l : Launch) (D : va_G) (ad : Nat → Nat) (ca : Nat → ClassId) {V : zV Int32} {ex : va_W} (hX : zIs V l b_W_contains R_W zTT (zKK D ca) D zcl (zty ca) 5 (zrm 1 22)) (hR : zRz V b_W_contains (zwC ad ca) ex) : ∀ (n : Nat) (x1 : Int32) (x2 : Int64) (x4 : Int32) (σ : zS), zJ V (fn_W_contains_u_3 n x1 x2 x4 σ) (zwC ad ca σ ++ ex) 3 [(0, .ref (ad 12)), (1, .int x1), (2, .long x2), (4, .int x4)] [] := by
  intro n
  induction n with
  | zero => intros; exact z_none
  | succ n ih =>
    intro x1 x2 x4 σ
    show zJ V (zgd (zin x1 32) (if x4 < (σ.1 13 x1.toNatClampNeg) then zb (fn_W_valueAt_u x1 x4 σ) (fun r18 s18 => if (lg_cmp r18 x2) = 0 then some ((1 : Int32), s18) else fn_W_contains_u_3 n x1 x2 (x4 + 1) s18) else some ((0 : Int32), σ))) _ _ _ _
    refine z_iload (i := 4) hX d_W_contains_3 rfl ?_
    refine z_aload_n (i := 0) hX d_W_contains_5 rfl rfl ?_
    refine z_get (C := R_W) (T := F_W) (N := 2) hX in_W 12 rfl rfl 0 (by decide) w_field_W_9_W_0 rfl d_W_contains_6 ?_
    refine z_iload_n (i := 1) hX d_W_contains_9 rfl rfl ?_
    refine z_iald hX 13 9 rfl rfl d_W_contains_10 ?_
    refine z_icmp_ge (tgt := 34) hX d_W_contains_11 (by decide) (fun c11 => ?_) (fun c11 => ?_)
    · refine z_aload_n (i := 0) hX d_W_contains_14 rfl rfl ?_
      refine z_iload_n (i := 1) hX d_W_contains_15 rfl rfl ?_
      refine z_iload (i := 4) hX d_W_contains_16 rfl ?_
      refine z_callVl (wl := zwC ad ca) (C := R_W) (n := 2) (rest := []) hX [.int x1, .int x4] (ct_W_valueAt_u l D ad ca x1 x4 σ) gV_W_23 ⟨rfl, rfl⟩ ⟨by decide, by decide⟩ (by decide +kernel) rfl 12 rfl rfl rfl rfl (Nat.le_of_ble_eq_true rfl) d_W_contains_18 (fun r18 s18 => ?_)
      refine z_lload_n (i := 2) hX d_W_contains_21 rfl rfl ?_
      refine z_lcmp hX d_W_contains_22 ?_
      refine z_if_ne (tgt := 28) hX d_W_contains_23 (by decide) (fun c23 => ?_) (fun c23 => ?_)
      · refine z_iconst (v := 1) hX d_W_contains_26 (by decide) ?_
        exact z_zret hR rfl d_W_contains_27
      · refine z_iinc (v := x4 + 1) (lv2 := [(4, .int (x4 + 1)), (0, .ref (ad 12)), (1, .int x1), (2, .long x2)]) hX d_W_contains_28 3 rfl (by first | rfl | decide) (by decide) rfl ?_
        refine z_goto (tgt := 3) hX d_W_contains_31 (by decide) ?_
        refine z_lv hX [1, 2, 3, 0] (lv2 := [(0, .ref (ad 12)), (1, .int x1), (2, .long x2), (4, .int (x4 + 1))]) rfl ?_
        exact ih _ _ _ _
    · refine z_iconst (v := 0) hX d_W_contains_34 (by decide) ?_
      exact z_zret hR rfl d_W_contains_35
def fn_W_contains_u (x1 : Int32) (x2 : Int64) (σ : zS) : Option (Int32 × zS) := fn_W_contains_u_3 100 x1 x2 (0 : Int32) σ
set_option maxRecDepth 100000 in
set_option maxHeartbeats 4000000 in
theorem ct_W_contains_u (l : Launch) (D : va_G) (ad : Nat → Nat) (ca : Nat → ClassId) (x1 : Int32) (x2 : Int64) (σ : zS) : zC zemI l y_W_contains (Cond.code y_W_contains b_W_contains 5 (some .boolean) :: zTT) (zrm 1 22) D zcl (zKK D ca) (zwC ad ca) σ [.ref (ad 12), .int x1, .long x2] (fn_W_contains_u x1 x2 σ) := by
  refine zmk_z (tys := zty ca) (by decide) (zKK_m D ca) (fun _ h => h.1) (Nat.le_of_ble_eq_true rfl) (fun V ex hX hR => ?_)
  show zJ V (fn_W_contains_u_3 100 x1 x2 (0 : Int32) σ) (zwC ad ca σ ++ ex) 0 [(0, .ref (ad 12)), (1, .int x1), (2, .long x2)] []
  refine z_iconst (v := 0) hX d_W_contains_0 (by decide) ?_
  refine z_istore (i := 4) (lv2 := [(4, .int (0 : Int32)), (0, .ref (ad 12)), (1, .int x1), (2, .long x2)]) hX d_W_contains_1 (by decide) rfl ?_
  refine z_lv hX [1, 2, 3, 0] (lv2 := [(0, .ref (ad 12)), (1, .int x1), (2, .long x2), (4, .int (0 : Int32))]) rfl ?_
  exact bk_W_contains_u_3 l D ad ca hX hR 100 _ _ _ _
def fn_W_append_u (x1 : Int32) (x2 : Int64) (σ : zS) : Option (Int32 × zS) := zgd (zin x1 32) (if (σ.1 13 x1.toNatClampNeg) < (6 : Int32) then zb (fn_W_contains_u x1 x2 σ) (fun r14 s14 => if r14 = 0 then zgd (zin x1 32) (zgd (zin ((x1 * (6 : Int32)) + (s14.1 13 x1.toNatClampNeg)) 192) (zst (zL s14 14 ((x1 * (6 : Int32)) + (s14.1 13 x1.toNatClampNeg)).toNatClampNeg x2) (fun s38 => zgd (zin x1 32) (zgd (zin x1 32) (zst (zI s38 13 x1.toNatClampNeg ((s38.1 13 x1.toNatClampNeg) + (1 : Int32))) (fun s48 => some ((1 : Int32), s48))))))) else some ((0 : Int32), s14)) else some ((0 : Int32), σ))
set_option maxRecDepth 100000 in
set_option maxHeartbeats 4000000 in
theorem ct_W_append_u (l : Launch) (D : va_G) (ad : Nat → Nat) (ca : Nat → ClassId) (x1 : Int32) (x2 : Int64) (σ : zS) : zC zemI l y_W_append (Cond.code y_W_append b_W_append 4 (some .boolean) :: zTT) (zrm 2 46) D zcl (zKK D ca) (zwC ad ca) σ [.ref (ad 12), .int x1, .long x2] (fn_W_append_u x1 x2 σ) := by
  refine zmk_z (tys := zty ca) (by decide) (zKK_m D ca) (fun _ h => h.1) (Nat.le_of_ble_eq_true rfl) (fun V ex hX hR => ?_)
  show zJ V (zgd (zin x1 32) (if (σ.1 13 x1.toNatClampNeg) < (6 : Int32) then zb (fn_W_contains_u x1 x2 σ) (fun r14 s14 => if r14 = 0 then zgd (zin x1 32) (zgd (zin ((x1 * (6 : Int32)) + (s14.1 13 x1.toNatClampNeg)) 192) (zst (zL s14 14 ((x1 * (6 : Int32)) + (s14.1 13 x1.toNatClampNeg)).toNatClampNeg x2) (fun s38 => zgd (zin x1 32) (zgd (zin x1 32) (zst (zI s38 13 x1.toNatClampNeg ((s38.1 13 x1.toNatClampNeg) + (1 : Int32))) (fun s48 => some ((1 : Int32), s48))))))) else some ((0 : Int32), s14)) else some ((0 : Int32), σ))) (zwC ad ca σ ++ ex) 0 [(0, .ref (ad 12)), (1, .int x1), (2, .long x2)] []
  refine z_aload_n (i := 0) hX d_W_append_0 rfl rfl ?_
  refine z_get (C := R_W) (T := F_W) (N := 2) hX in_W 12 rfl rfl 0 (by decide) w_field_W_9_W_0 rfl d_W_append_1 ?_
  refine z_iload_n (i := 1) hX d_W_append_4 rfl rfl ?_
  refine z_iald hX 13 9 rfl rfl d_W_append_5 ?_
  refine z_bipush (v := 6) hX d_W_append_6 (by decide) ?_
  refine z_icmp_ge (tgt := 20) hX d_W_append_8 (by decide) (fun c8 => ?_) (fun c8 => ?_)
  · refine z_aload_n (i := 0) hX d_W_append_11 rfl rfl ?_
    refine z_iload_n (i := 1) hX d_W_append_12 rfl rfl ?_
    refine z_lload_n (i := 2) hX d_W_append_13 rfl rfl ?_
    refine z_callVi (wl := zwC ad ca) (C := R_W) (n := 2) (rest := []) hX [.int x1, .long x2] (ct_W_contains_u l D ad ca x1 x2 σ) gV_W_19 ⟨rfl, rfl⟩ ⟨by decide, by decide⟩ (by decide +kernel) rfl 12 rfl rfl rfl rfl (Nat.le_of_ble_eq_true rfl) d_W_append_14 (fun r14 s14 => ?_)
    refine z_if_eq (tgt := 22) hX d_W_append_17 (by decide) (fun c17 => ?_) (fun c17 => ?_)
    · refine z_aload_n (i := 0) hX d_W_append_22 rfl rfl ?_
      refine z_get (C := R_W) (T := F_W) (N := 2) hX in_W 12 rfl rfl 1 (by decide) w_field_W_15_W_1 rfl d_W_append_23 ?_
      refine z_iload_n (i := 1) hX d_W_append_26 rfl rfl ?_
      refine z_bipush (v := 6) hX d_W_append_27 (by decide) ?_
      refine z_imul hX d_W_append_29 ?_
      refine z_aload_n (i := 0) hX d_W_append_30 rfl rfl ?_
      refine z_get (C := R_W) (T := F_W) (N := 2) hX in_W 12 rfl rfl 0 (by decide) w_field_W_9_W_0 rfl d_W_append_31 ?_
      refine z_iload_n (i := 1) hX d_W_append_34 rfl rfl ?_
      refine z_iald hX 13 9 rfl rfl d_W_append_35 ?_
      refine z_iadd hX d_W_append_36 ?_
      refine z_lload_n (i := 2) hX d_W_append_37 rfl rfl ?_
      refine z_last (wl := zwC ad ca) (ex := ex) (x9 := (zL s14 14 ((x1 * (6 : Int32)) + (s14.1 13 x1.toNatClampNeg)).toNatClampNeg x2)) hX 14 10 rfl rfl rfl d_W_append_38 (fun s38 => ?_)
      refine z_aload_n (i := 0) hX d_W_append_39 rfl rfl ?_
      refine z_get (C := R_W) (T := F_W) (N := 2) hX in_W 12 rfl rfl 0 (by decide) w_field_W_9_W_0 rfl d_W_append_40 ?_
      refine z_iload_n (i := 1) hX d_W_append_43 rfl rfl ?_
      refine z_dup2 hX d_W_append_44 rfl rfl ?_
      refine z_iald hX 13 9 rfl rfl d_W_append_45 ?_
      refine z_iconst (v := 1) hX d_W_append_46 (by decide) ?_
      refine z_iadd hX d_W_append_47 ?_
      refine z_iast (wl := zwC ad ca) (ex := ex) (x9 := (zI s38 13 x1.toNatClampNeg ((s38.1 13 x1.toNatClampNeg) + (1 : Int32)))) hX 13 9 rfl rfl rfl d_W_append_48 (fun s48 => ?_)
      refine z_iconst (v := 1) hX d_W_append_49 (by decide) ?_
      exact z_zret hR rfl d_W_append_50
    · refine z_iconst (v := 0) hX d_W_append_20 (by decide) ?_
      exact z_zret hR rfl d_W_append_21
  · refine z_iconst (v := 0) hX d_W_append_20 (by decide) ?_
    exact z_zret hR rfl d_W_append_21
def fn_P_uses (x1 : Int32) (x2 : Int32) (σ : zS) : Option (Int32 × zS) := zb (fn_A_has x1 σ) (fun r5 s5 => if r5 = 0 then some ((0 : Int32), s5) else zb (fn_S_has x2 s5) (fun r16 s16 => if r16 = 0 then some ((0 : Int32), s16) else zb (fn_W_append_u x1 x2.toInt64 s16) (fun r34 s34 => zgd (zbo r34) (some (r34, s34)))))
set_option maxRecDepth 100000 in
set_option maxHeartbeats 4000000 in
theorem ct_P_uses (l : Launch) (D : va_G) (ad : Nat → Nat) (ca : Nat → ClassId) (x1 : Int32) (x2 : Int32) (σ : zS) : zC zemI l y_P_uses (Cond.code y_P_uses b_P_uses 3 (some .boolean) :: zTT) (zrm 3 69) D zcl (zKK D ca) (zwC ad ca) σ [.ref (ad 0), .int x1, .int x2] (fn_P_uses x1 x2 σ) := by
  refine zmk_z (tys := zty ca) (by decide) (zKK_m D ca) (fun _ h => h.1) (Nat.le_of_ble_eq_true rfl) (fun V ex hX hR => ?_)
  show zJ V (zb (fn_A_has x1 σ) (fun r5 s5 => if r5 = 0 then some ((0 : Int32), s5) else zb (fn_S_has x2 s5) (fun r16 s16 => if r16 = 0 then some ((0 : Int32), s16) else zb (fn_W_append_u x1 x2.toInt64 s16) (fun r34 s34 => zgd (zbo r34) (some (r34, s34)))))) (zwC ad ca σ ++ ex) 0 [(0, .ref (ad 0)), (1, .int x1), (2, .int x2)] []
  refine z_aload_n (i := 0) hX d_P_uses_0 rfl rfl ?_
  refine z_get (C := R_P) (T := F_P) (N := 7) hX in_P 0 rfl rfl 1 (by decide) w_field_P_19_P_1 rfl d_P_uses_1 ?_
  refine z_iload_n (i := 1) hX d_P_uses_4 rfl rfl ?_
  refine z_callVi (wl := zwC ad ca) (C := R_A) (n := 1) (rest := []) hX [.int x1] (ct_A_has l D ad ca x1 σ) gV_P_68 ⟨rfl, rfl⟩ ⟨by decide, by decide⟩ (by decide +kernel) rfl 6 rfl rfl rfl rfl (Nat.le_of_ble_eq_true rfl) d_P_uses_5 (fun r5 s5 => ?_)
  refine z_if_eq (tgt := 22) hX d_P_uses_8 (by decide) (fun c8 => ?_) (fun c8 => ?_)
  · refine z_iconst (v := 0) hX d_P_uses_22 (by decide) ?_
    exact z_zret hR rfl d_P_uses_23
  · refine z_aload_n (i := 0) hX d_P_uses_11 rfl rfl ?_
    refine z_get (C := R_P) (T := F_P) (N := 7) hX in_P 0 rfl rfl 0 (by decide) w_field_P_10_P_0 rfl d_P_uses_12 ?_
    refine z_iload_n (i := 2) hX d_P_uses_15 rfl rfl ?_
    refine z_callVi (wl := zwC ad ca) (C := R_S) (n := 1) (rest := []) hX [.int x2] (ct_S_has l D ad ca x2 s5) gV_P_56 ⟨rfl, rfl⟩ ⟨by decide, by decide⟩ (by decide +kernel) rfl 1 rfl rfl rfl rfl (Nat.le_of_ble_eq_true rfl) d_P_uses_16 (fun r16 s16 => ?_)
    refine z_if_ne (tgt := 24) hX d_P_uses_19 (by decide) (fun c19 => ?_) (fun c19 => ?_)
    · refine z_iconst (v := 0) hX d_P_uses_22 (by decide) ?_
      exact z_zret hR rfl d_P_uses_23
    · refine z_aload_n (i := 0) hX d_P_uses_24 rfl rfl ?_
      refine z_get (C := R_P) (T := F_P) (N := 7) hX in_P 0 rfl rfl 1 (by decide) w_field_P_19_P_1 rfl d_P_uses_25 ?_
      refine z_get (C := R_A) (T := F_A) (N := 11) hX in_A 6 rfl rfl 6 (by decide) w_field_P_69_A_6 rfl d_P_uses_28 ?_
      refine z_iload_n (i := 1) hX d_P_uses_31 rfl rfl ?_
      refine z_iload_n (i := 2) hX d_P_uses_32 rfl rfl ?_
      refine z_i2l hX d_P_uses_33 ?_
      refine z_callVi (wl := zwC ad ca) (C := R_W) (n := 2) (rest := []) hX [.int x1, .long x2.toInt64] (ct_W_append_u l D ad ca x1 x2.toInt64 s16) gV_P_73 ⟨rfl, rfl⟩ ⟨by decide, by decide⟩ (by decide +kernel) rfl 12 rfl rfl rfl rfl (Nat.le_of_ble_eq_true rfl) d_P_uses_34 (fun r34 s34 => ?_)
      exact z_zretg hR d_P_uses_37
def fn_W_contains_n_3 : Nat → Int32 → Int64 → Int32 → zS → Option (Int32 × zS)
  | 0, _, _, _, _ => none
  | n + 1, x1, x2, x4, σ => zgd (zin x1 32) (if x4 < (σ.1 16 x1.toNatClampNeg) then zb (fn_W_valueAt_n x1 x4 σ) (fun r18 s18 => if (lg_cmp r18 x2) = 0 then some ((1 : Int32), s18) else fn_W_contains_n_3 n x1 x2 (x4 + 1) s18) else some ((0 : Int32), σ))
set_option maxRecDepth 100000 in
set_option maxHeartbeats 4000000 in
theorem bk_W_contains_n_3 (l : Launch) (D : va_G) (ad : Nat → Nat) (ca : Nat → ClassId) {V : zV Int32} {ex : va_W} (hX : zIs V l b_W_contains R_W zTT (zKK D ca) D zcl (zty ca) 5 (zrm 1 22)) (hR : zRz V b_W_contains (zwC ad ca) ex) : ∀ (n : Nat) (x1 : Int32) (x2 : Int64) (x4 : Int32) (σ : zS), zJ V (fn_W_contains_n_3 n x1 x2 x4 σ) (zwC ad ca σ ++ ex) 3 [(0, .ref (ad 15)), (1, .int x1), (2, .long x2), (4, .int x4)] [] := by
  intro n
  induction n with
  | zero => intros; exact z_none
  | succ n ih =>
    intro x1 x2 x4 σ
    show zJ V (zgd (zin x1 32) (if x4 < (σ.1 16 x1.toNatClampNeg) then zb (fn_W_valueAt_n x1 x4 σ) (fun r18 s18 => if (lg_cmp r18 x2) = 0 then some ((1 : Int32), s18) else fn_W_contains_n_3 n x1 x2 (x4 + 1) s18) else some ((0 : Int32), σ))) _ _ _ _
    refine z_iload (i := 4) hX d_W_contains_3 rfl ?_
    refine z_aload_n (i := 0) hX d_W_contains_5 rfl rfl ?_
    refine z_get (C := R_W) (T := F_W) (N := 2) hX in_W 15 rfl rfl 0 (by decide) w_field_W_9_W_0 rfl d_W_contains_6 ?_
    refine z_iload_n (i := 1) hX d_W_contains_9 rfl rfl ?_
    refine z_iald hX 16 11 rfl rfl d_W_contains_10 ?_
    refine z_icmp_ge (tgt := 34) hX d_W_contains_11 (by decide) (fun c11 => ?_) (fun c11 => ?_)
    · refine z_aload_n (i := 0) hX d_W_contains_14 rfl rfl ?_
      refine z_iload_n (i := 1) hX d_W_contains_15 rfl rfl ?_
      refine z_iload (i := 4) hX d_W_contains_16 rfl ?_
      refine z_callVl (wl := zwC ad ca) (C := R_W) (n := 2) (rest := []) hX [.int x1, .int x4] (ct_W_valueAt_n l D ad ca x1 x4 σ) gV_W_23 ⟨rfl, rfl⟩ ⟨by decide, by decide⟩ (by decide +kernel) rfl 15 rfl rfl rfl rfl (Nat.le_of_ble_eq_true rfl) d_W_contains_18 (fun r18 s18 => ?_)
      refine z_lload_n (i := 2) hX d_W_contains_21 rfl rfl ?_
      refine z_lcmp hX d_W_contains_22 ?_
      refine z_if_ne (tgt := 28) hX d_W_contains_23 (by decide) (fun c23 => ?_) (fun c23 => ?_)
      · refine z_iconst (v := 1) hX d_W_contains_26 (by decide) ?_
        exact z_zret hR rfl d_W_contains_27
      · refine z_iinc (v := x4 + 1) (lv2 := [(4, .int (x4 + 1)), (0, .ref (ad 15)), (1, .int x1), (2, .long x2)]) hX d_W_contains_28 3 rfl (by first | rfl | decide) (by decide) rfl ?_
        refine z_goto (tgt := 3) hX d_W_contains_31 (by decide) ?_
        refine z_lv hX [1, 2, 3, 0] (lv2 := [(0, .ref (ad 15)), (1, .int x1), (2, .long x2), (4, .int (x4 + 1))]) rfl ?_
        exact ih _ _ _ _
    · refine z_iconst (v := 0) hX d_W_contains_34 (by decide) ?_
      exact z_zret hR rfl d_W_contains_35
def fn_W_contains_n (x1 : Int32) (x2 : Int64) (σ : zS) : Option (Int32 × zS) := fn_W_contains_n_3 100 x1 x2 (0 : Int32) σ
set_option maxRecDepth 100000 in
set_option maxHeartbeats 4000000 in
theorem ct_W_contains_n (l : Launch) (D : va_G) (ad : Nat → Nat) (ca : Nat → ClassId) (x1 : Int32) (x2 : Int64) (σ : zS) : zC zemI l y_W_contains (Cond.code y_W_contains b_W_contains 5 (some .boolean) :: zTT) (zrm 1 22) D zcl (zKK D ca) (zwC ad ca) σ [.ref (ad 15), .int x1, .long x2] (fn_W_contains_n x1 x2 σ) := by
  refine zmk_z (tys := zty ca) (by decide) (zKK_m D ca) (fun _ h => h.1) (Nat.le_of_ble_eq_true rfl) (fun V ex hX hR => ?_)
  show zJ V (fn_W_contains_n_3 100 x1 x2 (0 : Int32) σ) (zwC ad ca σ ++ ex) 0 [(0, .ref (ad 15)), (1, .int x1), (2, .long x2)] []
  refine z_iconst (v := 0) hX d_W_contains_0 (by decide) ?_
  refine z_istore (i := 4) (lv2 := [(4, .int (0 : Int32)), (0, .ref (ad 15)), (1, .int x1), (2, .long x2)]) hX d_W_contains_1 (by decide) rfl ?_
  refine z_lv hX [1, 2, 3, 0] (lv2 := [(0, .ref (ad 15)), (1, .int x1), (2, .long x2), (4, .int (0 : Int32))]) rfl ?_
  exact bk_W_contains_n_3 l D ad ca hX hR 100 _ _ _ _
def fn_W_append_n (x1 : Int32) (x2 : Int64) (σ : zS) : Option (Int32 × zS) := zgd (zin x1 32) (if (σ.1 16 x1.toNatClampNeg) < (6 : Int32) then zb (fn_W_contains_n x1 x2 σ) (fun r14 s14 => if r14 = 0 then zgd (zin x1 32) (zgd (zin ((x1 * (6 : Int32)) + (s14.1 16 x1.toNatClampNeg)) 192) (zst (zL s14 17 ((x1 * (6 : Int32)) + (s14.1 16 x1.toNatClampNeg)).toNatClampNeg x2) (fun s38 => zgd (zin x1 32) (zgd (zin x1 32) (zst (zI s38 16 x1.toNatClampNeg ((s38.1 16 x1.toNatClampNeg) + (1 : Int32))) (fun s48 => some ((1 : Int32), s48))))))) else some ((0 : Int32), s14)) else some ((0 : Int32), σ))
set_option maxRecDepth 100000 in
set_option maxHeartbeats 4000000 in
theorem ct_W_append_n (l : Launch) (D : va_G) (ad : Nat → Nat) (ca : Nat → ClassId) (x1 : Int32) (x2 : Int64) (σ : zS) : zC zemI l y_W_append (Cond.code y_W_append b_W_append 4 (some .boolean) :: zTT) (zrm 2 46) D zcl (zKK D ca) (zwC ad ca) σ [.ref (ad 15), .int x1, .long x2] (fn_W_append_n x1 x2 σ) := by
  refine zmk_z (tys := zty ca) (by decide) (zKK_m D ca) (fun _ h => h.1) (Nat.le_of_ble_eq_true rfl) (fun V ex hX hR => ?_)
  show zJ V (zgd (zin x1 32) (if (σ.1 16 x1.toNatClampNeg) < (6 : Int32) then zb (fn_W_contains_n x1 x2 σ) (fun r14 s14 => if r14 = 0 then zgd (zin x1 32) (zgd (zin ((x1 * (6 : Int32)) + (s14.1 16 x1.toNatClampNeg)) 192) (zst (zL s14 17 ((x1 * (6 : Int32)) + (s14.1 16 x1.toNatClampNeg)).toNatClampNeg x2) (fun s38 => zgd (zin x1 32) (zgd (zin x1 32) (zst (zI s38 16 x1.toNatClampNeg ((s38.1 16 x1.toNatClampNeg) + (1 : Int32))) (fun s48 => some ((1 : Int32), s48))))))) else some ((0 : Int32), s14)) else some ((0 : Int32), σ))) (zwC ad ca σ ++ ex) 0 [(0, .ref (ad 15)), (1, .int x1), (2, .long x2)] []
  refine z_aload_n (i := 0) hX d_W_append_0 rfl rfl ?_
  refine z_get (C := R_W) (T := F_W) (N := 2) hX in_W 15 rfl rfl 0 (by decide) w_field_W_9_W_0 rfl d_W_append_1 ?_
  refine z_iload_n (i := 1) hX d_W_append_4 rfl rfl ?_
  refine z_iald hX 16 11 rfl rfl d_W_append_5 ?_
  refine z_bipush (v := 6) hX d_W_append_6 (by decide) ?_
  refine z_icmp_ge (tgt := 20) hX d_W_append_8 (by decide) (fun c8 => ?_) (fun c8 => ?_)
  · refine z_aload_n (i := 0) hX d_W_append_11 rfl rfl ?_
    refine z_iload_n (i := 1) hX d_W_append_12 rfl rfl ?_
    refine z_lload_n (i := 2) hX d_W_append_13 rfl rfl ?_
    refine z_callVi (wl := zwC ad ca) (C := R_W) (n := 2) (rest := []) hX [.int x1, .long x2] (ct_W_contains_n l D ad ca x1 x2 σ) gV_W_19 ⟨rfl, rfl⟩ ⟨by decide, by decide⟩ (by decide +kernel) rfl 15 rfl rfl rfl rfl (Nat.le_of_ble_eq_true rfl) d_W_append_14 (fun r14 s14 => ?_)
    refine z_if_eq (tgt := 22) hX d_W_append_17 (by decide) (fun c17 => ?_) (fun c17 => ?_)
    · refine z_aload_n (i := 0) hX d_W_append_22 rfl rfl ?_
      refine z_get (C := R_W) (T := F_W) (N := 2) hX in_W 15 rfl rfl 1 (by decide) w_field_W_15_W_1 rfl d_W_append_23 ?_
      refine z_iload_n (i := 1) hX d_W_append_26 rfl rfl ?_
      refine z_bipush (v := 6) hX d_W_append_27 (by decide) ?_
      refine z_imul hX d_W_append_29 ?_
      refine z_aload_n (i := 0) hX d_W_append_30 rfl rfl ?_
      refine z_get (C := R_W) (T := F_W) (N := 2) hX in_W 15 rfl rfl 0 (by decide) w_field_W_9_W_0 rfl d_W_append_31 ?_
      refine z_iload_n (i := 1) hX d_W_append_34 rfl rfl ?_
      refine z_iald hX 16 11 rfl rfl d_W_append_35 ?_
      refine z_iadd hX d_W_append_36 ?_
      refine z_lload_n (i := 2) hX d_W_append_37 rfl rfl ?_
      refine z_last (wl := zwC ad ca) (ex := ex) (x9 := (zL s14 17 ((x1 * (6 : Int32)) + (s14.1 16 x1.toNatClampNeg)).toNatClampNeg x2)) hX 17 12 rfl rfl rfl d_W_append_38 (fun s38 => ?_)
      refine z_aload_n (i := 0) hX d_W_append_39 rfl rfl ?_
      refine z_get (C := R_W) (T := F_W) (N := 2) hX in_W 15 rfl rfl 0 (by decide) w_field_W_9_W_0 rfl d_W_append_40 ?_
      refine z_iload_n (i := 1) hX d_W_append_43 rfl rfl ?_
      refine z_dup2 hX d_W_append_44 rfl rfl ?_
      refine z_iald hX 16 11 rfl rfl d_W_append_45 ?_
      refine z_iconst (v := 1) hX d_W_append_46 (by decide) ?_
      refine z_iadd hX d_W_append_47 ?_
      refine z_iast (wl := zwC ad ca) (ex := ex) (x9 := (zI s38 16 x1.toNatClampNeg ((s38.1 16 x1.toNatClampNeg) + (1 : Int32)))) hX 16 11 rfl rfl rfl d_W_append_48 (fun s48 => ?_)
      refine z_iconst (v := 1) hX d_W_append_49 (by decide) ?_
      exact z_zret hR rfl d_W_append_50
    · refine z_iconst (v := 0) hX d_W_append_20 (by decide) ?_
      exact z_zret hR rfl d_W_append_21
  · refine z_iconst (v := 0) hX d_W_append_20 (by decide) ?_
    exact z_zret hR rfl d_W_append_21
def fn_A_firstOf_2 : Nat → Int64 → Int32 → zS → Option (Int32 × zS)
  | 0, _, _, _ => none
  | n + 1, x1, x3, σ => if x3 < (σ.1 220 0) then zgd (zin x3 32) (if (lg_cmp (σ.2 7 x3.toNatClampNeg) x1) = 0 then some (x3, σ) else fn_A_firstOf_2 n x1 (x3 + 1) σ) else some ((-1 : Int32), σ)
set_option maxRecDepth 100000 in
set_option maxHeartbeats 4000000 in
theorem bk_A_firstOf_2 (l : Launch) (D : va_G) (ad : Nat → Nat) (ca : Nat → ClassId) {V : zV Int32} {ex : va_W} (hX : zIs V l b_A_firstOf R_A zTT (zKK D ca) D zcl (zty ca) 4 (zrm 0 0)) (hR : zRi V b_A_firstOf (zwC ad ca) ex) : ∀ (n : Nat) (x1 : Int64) (x3 : Int32) (σ : zS), zJ V (fn_A_firstOf_2 n x1 x3 σ) (zwC ad ca σ ++ ex) 2 [(0, .ref (ad 6)), (1, .long x1), (3, .int x3)] [] := by
  intro n
  induction n with
  | zero => intros; exact z_none
  | succ n ih =>
    intro x1 x3 σ
    show zJ V (if x3 < (σ.1 220 0) then zgd (zin x3 32) (if (lg_cmp (σ.2 7 x3.toNatClampNeg) x1) = 0 then some (x3, σ) else fn_A_firstOf_2 n x1 (x3 + 1) σ) else some ((-1 : Int32), σ)) _ _ _ _
    refine z_iload_n (i := 3) hX d_A_firstOf_2 rfl rfl ?_
    refine z_aload_n (i := 0) hX d_A_firstOf_3 rfl rfl ?_
    refine z_get (C := R_A) (T := F_A) (N := 11) hX in_A 6 rfl rfl 0 (by decide) w_field_A_47_A_0 rfl d_A_firstOf_4 ?_
    refine z_icmp_ge (tgt := 29) hX d_A_firstOf_7 (by decide) (fun c7 => ?_) (fun c7 => ?_)
    · refine z_aload_n (i := 0) hX d_A_firstOf_10 rfl rfl ?_
      refine z_get (C := R_A) (T := F_A) (N := 11) hX in_A 6 rfl rfl 1 (by decide) w_field_A_9_A_1 rfl d_A_firstOf_11 ?_
      refine z_iload_n (i := 3) hX d_A_firstOf_14 rfl rfl ?_
      refine z_lald hX 7 4 rfl rfl d_A_firstOf_15 ?_
      refine z_lload_n (i := 1) hX d_A_firstOf_16 rfl rfl ?_
      refine z_lcmp hX d_A_firstOf_17 ?_
      refine z_if_ne (tgt := 23) hX d_A_firstOf_18 (by decide) (fun c18 => ?_) (fun c18 => ?_)
      · refine z_iload_n (i := 3) hX d_A_firstOf_21 rfl rfl ?_
        exact z_iret hR d_A_firstOf_22
      · refine z_iinc (v := x3 + 1) (lv2 := [(3, .int (x3 + 1)), (0, .ref (ad 6)), (1, .long x1)]) hX d_A_firstOf_23 2 rfl (by first | rfl | decide) (by decide) rfl ?_
        refine z_goto (tgt := 2) hX d_A_firstOf_26 (by decide) ?_
        refine z_lv hX [1, 2, 0] (lv2 := [(0, .ref (ad 6)), (1, .long x1), (3, .int (x3 + 1))]) rfl ?_
        exact ih _ _ _
    · refine z_iconst (v := -1) hX d_A_firstOf_29 (by decide) ?_
      exact z_iret hR d_A_firstOf_30
def fn_A_firstOf (x1 : Int64) (σ : zS) : Option (Int32 × zS) := fn_A_firstOf_2 100 x1 (0 : Int32) σ
set_option maxRecDepth 100000 in
set_option maxHeartbeats 4000000 in
theorem ct_A_firstOf (l : Launch) (D : va_G) (ad : Nat → Nat) (ca : Nat → ClassId) (x1 : Int64) (σ : zS) : zC zemI l y_A_firstOf (Cond.code y_A_firstOf b_A_firstOf 4 (some .int) :: zTT) (zrm 0 0) D zcl (zKK D ca) (zwC ad ca) σ [.ref (ad 6), .long x1] (fn_A_firstOf x1 σ) := by
  refine zmk_i (tys := zty ca) (by decide) (zKK_m D ca) (fun _ h => h.1) (Nat.le_of_ble_eq_true rfl) (fun V ex hX hR => ?_)
  show zJ V (fn_A_firstOf_2 100 x1 (0 : Int32) σ) (zwC ad ca σ ++ ex) 0 [(0, .ref (ad 6)), (1, .long x1)] []
  refine z_iconst (v := 0) hX d_A_firstOf_0 (by decide) ?_
  refine z_istore_n (i := 3) (lv2 := [(3, .int (0 : Int32)), (0, .ref (ad 6)), (1, .long x1)]) hX d_A_firstOf_1 rfl (by decide) rfl ?_
  refine z_lv hX [1, 2, 0] (lv2 := [(0, .ref (ad 6)), (1, .long x1), (3, .int (0 : Int32))]) rfl ?_
  exact bk_A_firstOf_2 l D ad ca hX hR 100 _ _ _
