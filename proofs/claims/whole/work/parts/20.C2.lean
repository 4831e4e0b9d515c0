def fn_A_addNeeded (x1 : Int32) (x2 : Int64) (σ : zS) : Option (Int32 × zS) := zgd (zin x1 32) (zb (fn_W_append_n x1 x2 σ) (fun r17 s17 => if r17 = 0 then some ((0 : Int32), s17) else zb (fn_A_firstOf x2 s17) (fun r38 s38 => zgd (zin ((x1 * (6 : Int32)) + (σ.1 16 x1.toNatClampNeg)) 192) (zst (zI s38 18 ((x1 * (6 : Int32)) + (σ.1 16 x1.toNatClampNeg)).toNatClampNeg r38) (fun s41 => some ((1 : Int32), s41))))))
set_option maxRecDepth 100000 in
set_option maxHeartbeats 4000000 in
theorem ct_A_addNeeded (l : Launch) (D : va_G) (ad : Nat → Nat) (ca : Nat → ClassId) (x1 : Int32) (x2 : Int64) (σ : zS) : zC zemI l y_A_addNeeded (Cond.code y_A_addNeeded b_A_addNeeded 5 (some .boolean) :: zTT) (zrm 3 69) D zcl (zKK D ca) (zwC ad ca) σ [.ref (ad 6), .int x1, .long x2] (fn_A_addNeeded x1 x2 σ) := by
  refine zmk_z (tys := zty ca) (by decide) (zKK_m D ca) (fun _ h => h.1) (Nat.le_of_ble_eq_true rfl) (fun V ex hX hR => ?_)
  show zJ V (zgd (zin x1 32) (zb (fn_W_append_n x1 x2 σ) (fun r17 s17 => if r17 = 0 then some ((0 : Int32), s17) else zb (fn_A_firstOf x2 s17) (fun r38 s38 => zgd (zin ((x1 * (6 : Int32)) + (σ.1 16 x1.toNatClampNeg)) 192) (zst (zI s38 18 ((x1 * (6 : Int32)) + (σ.1 16 x1.toNatClampNeg)).toNatClampNeg r38) (fun s41 => some ((1 : Int32), s41))))))) (zwC ad ca σ ++ ex) 0 [(0, .ref (ad 6)), (1, .int x1), (2, .long x2)] []
  refine z_aload_n (i := 0) hX d_A_addNeeded_0 rfl rfl ?_
  refine z_get (C := R_A) (T := F_A) (N := 11) hX in_A 6 rfl rfl 7 (by decide) w_field_A_35_A_7 rfl d_A_addNeeded_1 ?_
  refine z_get (C := R_W) (T := F_W) (N := 2) hX in_W 15 rfl rfl 0 (by decide) w_field_A_55_W_0 rfl d_A_addNeeded_4 ?_
  refine z_iload_n (i := 1) hX d_A_addNeeded_7 rfl rfl ?_
  refine z_iald hX 16 11 rfl rfl d_A_addNeeded_8 ?_
  refine z_istore (i := 4) (lv2 := [(4, .int (σ.1 16 x1.toNatClampNeg)), (0, .ref (ad 6)), (1, .int x1), (2, .long x2)]) hX d_A_addNeeded_9 (by decide) rfl ?_
  refine z_aload_n (i := 0) hX d_A_addNeeded_11 rfl rfl ?_
  refine z_get (C := R_A) (T := F_A) (N := 11) hX in_A 6 rfl rfl 7 (by decide) w_field_A_35_A_7 rfl d_A_addNeeded_12 ?_
  refine z_iload_n (i := 1) hX d_A_addNeeded_15 rfl rfl ?_
  refine z_lload_n (i := 2) hX d_A_addNeeded_16 rfl rfl ?_
  refine z_callVi (wl := zwC ad ca) (C := R_W) (n := 2) (rest := []) hX [.int x1, .long x2] (ct_W_append_n l D ad ca x1 x2 σ) gV_A_66 ⟨rfl, rfl⟩ ⟨by decide, by decide⟩ (by decide +kernel) rfl 15 rfl rfl rfl rfl (Nat.le_of_ble_eq_true rfl) d_A_addNeeded_17 (fun r17 s17 => ?_)
  refine z_if_ne (tgt := 25) hX d_A_addNeeded_20 (by decide) (fun c20 => ?_) (fun c20 => ?_)
  · refine z_iconst (v := 0) hX d_A_addNeeded_23 (by decide) ?_
    exact z_zret hR rfl d_A_addNeeded_24
  · refine z_aload_n (i := 0) hX d_A_addNeeded_25 rfl rfl ?_
    refine z_get (C := R_A) (T := F_A) (N := 11) hX in_A 6 rfl rfl 8 (by decide) w_field_A_38_A_8 rfl d_A_addNeeded_26 ?_
    refine z_iload_n (i := 1) hX d_A_addNeeded_29 rfl rfl ?_
    refine z_bipush (v := 6) hX d_A_addNeeded_30 (by decide) ?_
    refine z_imul hX d_A_addNeeded_32 ?_
    refine z_iload (i := 4) hX d_A_addNeeded_33 rfl ?_
    refine z_iadd hX d_A_addNeeded_35 ?_
    refine z_aload_n (i := 0) hX d_A_addNeeded_36 rfl rfl ?_
    refine z_lload_n (i := 2) hX d_A_addNeeded_37 rfl rfl ?_
    refine z_callVi (wl := zwC ad ca) (C := R_A) (n := 1) (rest := [.int ((x1 * (6 : Int32)) + (σ.1 16 x1.toNatClampNeg)), .ref (ad 18)]) hX [.long x2] (ct_A_firstOf l D ad ca x2 s17) gV_A_70 ⟨rfl, rfl⟩ ⟨by decide, by decide⟩ (by decide +kernel) rfl 6 rfl rfl rfl rfl (Nat.le_of_ble_eq_true rfl) d_A_addNeeded_38 (fun r38 s38 => ?_)
    refine z_iast (wl := zwC ad ca) (ex := ex) (x9 := (zI s38 18 ((x1 * (6 : Int32)) + (σ.1 16 x1.toNatClampNeg)).toNatClampNeg r38)) hX 18 13 rfl rfl rfl d_A_addNeeded_41 (fun s41 => ?_)
    refine z_iconst (v := 1) hX d_A_addNeeded_42 (by decide) ?_
    exact z_zret hR rfl d_A_addNeeded_43
def fn_P_needs (x1 : Int32) (x2 : Int64) (σ : zS) : Option (Int32 × zS) := zb (fn_A_has x1 σ) (fun r5 s5 => if r5 = 0 then some ((0 : Int32), s5) else zb (fn_A_addNeeded x1 x2 s5) (fun r19 s19 => zgd (zbo r19) (some (r19, s19))))
set_option maxRecDepth 100000 in
set_option maxHeartbeats 4000000 in
theorem ct_P_needs (l : Launch) (D : va_G) (ad : Nat → Nat) (ca : Nat → ClassId) (x1 : Int32) (x2 : Int64) (σ : zS) : zC zemI l y_P_needs (Cond.code y_P_needs b_P_needs 4 (some .boolean) :: zTT) (zrm 4 93) D zcl (zKK D ca) (zwC ad ca) σ [.ref (ad 0), .int x1, .long x2] (fn_P_needs x1 x2 σ) := by
  refine zmk_z (tys := zty ca) (by decide) (zKK_m D ca) (fun _ h => h.1) (Nat.le_of_ble_eq_true rfl) (fun V ex hX hR => ?_)
  show zJ V (zb (fn_A_has x1 σ) (fun r5 s5 => if r5 = 0 then some ((0 : Int32), s5) else zb (fn_A_addNeeded x1 x2 s5) (fun r19 s19 => zgd (zbo r19) (some (r19, s19))))) (zwC ad ca σ ++ ex) 0 [(0, .ref (ad 0)), (1, .int x1), (2, .long x2)] []
  refine z_aload_n (i := 0) hX d_P_needs_0 rfl rfl ?_
  refine z_get (C := R_P) (T := F_P) (N := 7) hX in_P 0 rfl rfl 1 (by decide) w_field_P_19_P_1 rfl d_P_needs_1 ?_
  refine z_iload_n (i := 1) hX d_P_needs_4 rfl rfl ?_
  refine z_callVi (wl := zwC ad ca) (C := R_A) (n := 1) (rest := []) hX [.int x1] (ct_A_has l D ad ca x1 σ) gV_P_68 ⟨rfl, rfl⟩ ⟨by decide, by decide⟩ (by decide +kernel) rfl 6 rfl rfl rfl rfl (Nat.le_of_ble_eq_true rfl) d_P_needs_5 (fun r5 s5 => ?_)
  refine z_if_ne (tgt := 13) hX d_P_needs_8 (by decide) (fun c8 => ?_) (fun c8 => ?_)
  · refine z_iconst (v := 0) hX d_P_needs_11 (by decide) ?_
    exact z_zret hR rfl d_P_needs_12
  · refine z_aload_n (i := 0) hX d_P_needs_13 rfl rfl ?_
    refine z_get (C := R_P) (T := F_P) (N := 7) hX in_P 0 rfl rfl 1 (by decide) w_field_P_19_P_1 rfl d_P_needs_14 ?_
    refine z_iload_n (i := 1) hX d_P_needs_17 rfl rfl ?_
    refine z_lload_n (i := 2) hX d_P_needs_18 rfl rfl ?_
    refine z_callVi (wl := zwC ad ca) (C := R_A) (n := 2) (rest := []) hX [.int x1, .long x2] (ct_A_addNeeded l D ad ca x1 x2 s5) gV_P_79 ⟨rfl, rfl⟩ ⟨by decide, by decide⟩ (by decide +kernel) rfl 6 rfl rfl rfl rfl (Nat.le_of_ble_eq_true rfl) d_P_needs_19 (fun r19 s19 => ?_)
    exact z_zretg hR d_P_needs_22
def fn_A_setPath (x1 : Int32) (x2 : Int32) (x3 : Int64) (σ : zS) : Option (Unit × zS) := zgd (zin x1 32) (zgd (zin x1 32) (zst (zI σ 19 x1.toNatClampNeg ((σ.1 19 x1.toNatClampNeg) ||| (zshl (1 : Int32) x2))) (fun s11 => zgd (zin ((x1 * (8 : Int32)) + x2) 256) (zst (zL s11 20 ((x1 * (8 : Int32)) + x2).toNatClampNeg x3) (fun s23 => some ((), s23))))))
set_option maxRecDepth 100000 in
set_option maxHeartbeats 4000000 in
theorem ct_A_setPath (l : Launch) (D : va_G) (ad : Nat → Nat) (ca : Nat → ClassId) (x1 : Int32) (x2 : Int32) (x3 : Int64) (σ : zS) : zC zemV l y_A_setPath (Cond.code y_A_setPath b_A_setPath 5 none :: zTT) (zrm 0 0) D zcl (zKK D ca) (zwC ad ca) σ [.ref (ad 6), .int x1, .int x2, .long x3] (fn_A_setPath x1 x2 x3 σ) := by
  refine zmk_v (tys := zty ca) (by decide) (zKK_m D ca) (fun _ h => h.1) (Nat.le_of_ble_eq_true rfl) (fun V ex hX hR => ?_)
  show zJ V (zgd (zin x1 32) (zgd (zin x1 32) (zst (zI σ 19 x1.toNatClampNeg ((σ.1 19 x1.toNatClampNeg) ||| (zshl (1 : Int32) x2))) (fun s11 => zgd (zin ((x1 * (8 : Int32)) + x2) 256) (zst (zL s11 20 ((x1 * (8 : Int32)) + x2).toNatClampNeg x3) (fun s23 => some ((), s23))))))) (zwC ad ca σ ++ ex) 0 [(0, .ref (ad 6)), (1, .int x1), (2, .int x2), (3, .long x3)] []
  refine z_aload_n (i := 0) hX d_A_setPath_0 rfl rfl ?_
  refine z_get (C := R_A) (T := F_A) (N := 11) hX in_A 6 rfl rfl 9 (by decide) w_field_A_41_A_9 rfl d_A_setPath_1 ?_
  refine z_iload_n (i := 1) hX d_A_setPath_4 rfl rfl ?_
  refine z_dup2 hX d_A_setPath_5 rfl rfl ?_
  refine z_iald hX 19 14 rfl rfl d_A_setPath_6 ?_
  refine z_iconst (v := 1) hX d_A_setPath_7 (by decide) ?_
  refine z_iload_n (i := 2) hX d_A_setPath_8 rfl rfl ?_
  refine z_ishl hX d_A_setPath_9 ?_
  refine z_ior hX d_A_setPath_10 ?_
  refine z_iast (wl := zwC ad ca) (ex := ex) (x9 := (zI σ 19 x1.toNatClampNeg ((σ.1 19 x1.toNatClampNeg) ||| (zshl (1 : Int32) x2)))) hX 19 14 rfl rfl rfl d_A_setPath_11 (fun s11 => ?_)
  refine z_aload_n (i := 0) hX d_A_setPath_12 rfl rfl ?_
  refine z_get (C := R_A) (T := F_A) (N := 11) hX in_A 6 rfl rfl 10 (by decide) w_field_A_44_A_10 rfl d_A_setPath_13 ?_
  refine z_iload_n (i := 1) hX d_A_setPath_16 rfl rfl ?_
  refine z_bipush (v := 8) hX d_A_setPath_17 (by decide) ?_
  refine z_imul hX d_A_setPath_19 ?_
  refine z_iload_n (i := 2) hX d_A_setPath_20 rfl rfl ?_
  refine z_iadd hX d_A_setPath_21 ?_
  refine z_lload_n (i := 3) hX d_A_setPath_22 rfl rfl ?_
  refine z_last (wl := zwC ad ca) (ex := ex) (x9 := (zL s11 20 ((x1 * (8 : Int32)) + x2).toNatClampNeg x3)) hX 20 15 rfl rfl rfl d_A_setPath_23 (fun s23 => ?_)
  exact z_vret hR d_A_setPath_24
def fn_P_path (x1 : Int32) (x2 : Int32) (x3 : Int64) (σ : zS) : Option (Int32 × zS) := zb (fn_A_has x1 σ) (fun r5 s5 => if r5 = 0 then some ((0 : Int32), s5) else zb (fn_P_isUpTo x2 (7 : Int32) s5) (fun r14 s14 => if r14 = 0 then some ((0 : Int32), s14) else zb (fn_A_setPath x1 x2 x3 s14) (fun r29 s29 => some ((1 : Int32), s29))))
set_option maxRecDepth 100000 in
set_option maxHeartbeats 4000000 in
theorem ct_P_path (l : Launch) (D : va_G) (ad : Nat → Nat) (ca : Nat → ClassId) (x1 : Int32) (x2 : Int32) (x3 : Int64) (σ : zS) : zC zemI l y_P_path (Cond.code y_P_path b_P_path 5 (some .boolean) :: zTT) (zrm 1 24) D zcl (zKK D ca) (zwC ad ca) σ [.ref (ad 0), .int x1, .int x2, .long x3] (fn_P_path x1 x2 x3 σ) := by
  refine zmk_z (tys := zty ca) (by decide) (zKK_m D ca) (fun _ h => h.1) (Nat.le_of_ble_eq_true rfl) (fun V ex hX hR => ?_)
  show zJ V (zb (fn_A_has x1 σ) (fun r5 s5 => if r5 = 0 then some ((0 : Int32), s5) else zb (fn_P_isUpTo x2 (7 : Int32) s5) (fun r14 s14 => if r14 = 0 then some ((0 : Int32), s14) else zb (fn_A_setPath x1 x2 x3 s14) (fun r29 s29 => some ((1 : Int32), s29))))) (zwC ad ca σ ++ ex) 0 [(0, .ref (ad 0)), (1, .int x1), (2, .int x2), (3, .long x3)] []
  refine z_aload_n (i := 0) hX d_P_path_0 rfl rfl ?_
  refine z_get (C := R_P) (T := F_P) (N := 7) hX in_P 0 rfl rfl 1 (by decide) w_field_P_19_P_1 rfl d_P_path_1 ?_
  refine z_iload_n (i := 1) hX d_P_path_4 rfl rfl ?_
  refine z_callVi (wl := zwC ad ca) (C := R_A) (n := 1) (rest := []) hX [.int x1] (ct_A_has l D ad ca x1 σ) gV_P_68 ⟨rfl, rfl⟩ ⟨by decide, by decide⟩ (by decide +kernel) rfl 6 rfl rfl rfl rfl (Nat.le_of_ble_eq_true rfl) d_P_path_5 (fun r5 s5 => ?_)
  refine z_if_eq (tgt := 20) hX d_P_path_8 (by decide) (fun c8 => ?_) (fun c8 => ?_)
  · refine z_iconst (v := 0) hX d_P_path_20 (by decide) ?_
    exact z_zret hR rfl d_P_path_21
  · refine z_iload_n (i := 2) hX d_P_path_11 rfl rfl ?_
    refine z_bipush (v := 7) hX d_P_path_12 (by decide) ?_
    refine z_callSi (wl := zwC ad ca) (n := 2) (rest := []) hX [.int x2, .int (7 : Int32)] (ct_P_isUpTo l D ca (zwC ad ca) x2 (7 : Int32) s5) gS_P_47 ⟨rfl, rfl⟩ ⟨by decide, by decide⟩ (by decide +kernel) rfl rfl (Nat.le_of_ble_eq_true rfl) d_P_path_14 (fun r14 s14 => ?_)
    refine z_if_ne (tgt := 22) hX d_P_path_17 (by decide) (fun c17 => ?_) (fun c17 => ?_)
    · refine z_iconst (v := 0) hX d_P_path_20 (by decide) ?_
      exact z_zret hR rfl d_P_path_21
    · refine z_aload_n (i := 0) hX d_P_path_22 rfl rfl ?_
      refine z_get (C := R_P) (T := F_P) (N := 7) hX in_P 0 rfl rfl 1 (by decide) w_field_P_19_P_1 rfl d_P_path_23 ?_
      refine z_iload_n (i := 1) hX d_P_path_26 rfl rfl ?_
      refine z_iload_n (i := 2) hX d_P_path_27 rfl rfl ?_
      refine z_lload_n (i := 3) hX d_P_path_28 rfl rfl ?_
      refine z_callVv (wl := zwC ad ca) (C := R_A) (n := 3) (rest := []) hX [.int x1, .int x2, .long x3] (ct_A_setPath l D ad ca x1 x2 x3 s14) gV_P_82 ⟨rfl, rfl⟩ ⟨by decide, by decide⟩ (by decide +kernel) rfl 6 rfl rfl rfl rfl (Nat.le_of_ble_eq_true rfl) d_P_path_29 (fun r29 s29 => ?_)
      refine z_iconst (v := 1) hX d_P_path_32 (by decide) ?_
      exact z_zret hR rfl d_P_path_33
def fn_Y_add (x1 : Int32) (x2 : Int32) (σ : zS) : Option (Int32 × zS) := if (σ.1 520 0) < (16 : Int32) then zgd (zin (σ.1 520 0) 16) (zst (zI σ 22 (σ.1 520 0).toNatClampNeg x1) (fun s22 => zgd (zin (σ.1 520 0) 16) (zst (zI s22 23 (σ.1 520 0).toNatClampNeg x2) (fun s29 => zst (zF s29 520 ((s29.1 520 0) + (1 : Int32))) (fun s37 => some (σ.1 520 0, s37)))))) else some ((-1 : Int32), σ)
set_option maxRecDepth 100000 in
set_option maxHeartbeats 4000000 in
theorem ct_Y_add (l : Launch) (D : va_G) (ad : Nat → Nat) (ca : Nat → ClassId) (x1 : Int32) (x2 : Int32) (σ : zS) : zC zemI l y_Y_add (Cond.code y_Y_add b_Y_add 4 (some .int) :: zTT) (zrm 0 0) D zcl (zKK D ca) (zwC ad ca) σ [.ref (ad 21), .int x1, .int x2] (fn_Y_add x1 x2 σ) := by
  refine zmk_i (tys := zty ca) (by decide) (zKK_m D ca) (fun _ h => h.1) (Nat.le_of_ble_eq_true rfl) (fun V ex hX hR => ?_)
  show zJ V (if (σ.1 520 0) < (16 : Int32) then zgd (zin (σ.1 520 0) 16) (zst (zI σ 22 (σ.1 520 0).toNatClampNeg x1) (fun s22 => zgd (zin (σ.1 520 0) 16) (zst (zI s22 23 (σ.1 520 0).toNatClampNeg x2) (fun s29 => zst (zF s29 520 ((s29.1 520 0) + (1 : Int32))) (fun s37 => some (σ.1 520 0, s37)))))) else some ((-1 : Int32), σ)) (zwC ad ca σ ++ ex) 0 [(0, .ref (ad 21)), (1, .int x1), (2, .int x2)] []
  refine z_aload_n (i := 0) hX d_Y_add_0 rfl rfl ?_
  refine z_get (C := R_Y) (T := F_Y) (N := 3) hX in_Y 21 rfl rfl 0 (by decide) w_field_Y_18_Y_0 rfl d_Y_add_1 ?_
  refine z_bipush (v := 16) hX d_Y_add_4 (by decide) ?_
  refine z_icmp_lt (tgt := 11) hX d_Y_add_6 (by decide) (fun c6 => ?_) (fun c6 => ?_)
  · refine z_aload_n (i := 0) hX d_Y_add_11 rfl rfl ?_
    refine z_get (C := R_Y) (T := F_Y) (N := 3) hX in_Y 21 rfl rfl 0 (by decide) w_field_Y_18_Y_0 rfl d_Y_add_12 ?_
    refine z_istore_n (i := 3) (lv2 := [(3, .int (σ.1 520 0)), (0, .ref (ad 21)), (1, .int x1), (2, .int x2)]) hX d_Y_add_15 rfl (by decide) rfl ?_
    refine z_aload_n (i := 0) hX d_Y_add_16 rfl rfl ?_
    refine z_get (C := R_Y) (T := F_Y) (N := 3) hX in_Y 21 rfl rfl 1 (by decide) w_field_Y_9_Y_1 rfl d_Y_add_17 ?_
    refine z_iload_n (i := 3) hX d_Y_add_20 rfl rfl ?_
    refine z_iload_n (i := 1) hX d_Y_add_21 rfl rfl ?_
    refine z_iast (wl := zwC ad ca) (ex := ex) (x9 := (zI σ 22 (σ.1 520 0).toNatClampNeg x1)) hX 22 16 rfl rfl rfl d_Y_add_22 (fun s22 => ?_)
    refine z_aload_n (i := 0) hX d_Y_add_23 rfl rfl ?_
    refine z_get (C := R_Y) (T := F_Y) (N := 3) hX in_Y 21 rfl rfl 2 (by decide) w_field_Y_15_Y_2 rfl d_Y_add_24 ?_
    refine z_iload_n (i := 3) hX d_Y_add_27 rfl rfl ?_
    refine z_iload_n (i := 2) hX d_Y_add_28 rfl rfl ?_
    refine z_iast (wl := zwC ad ca) (ex := ex) (x9 := (zI s22 23 (σ.1 520 0).toNatClampNeg x2)) hX 23 17 rfl rfl rfl d_Y_add_29 (fun s29 => ?_)
    refine z_aload_n (i := 0) hX d_Y_add_30 rfl rfl ?_
    refine z_dup hX d_Y_add_31 rfl ?_
    refine z_get (C := R_Y) (T := F_Y) (N := 3) hX in_Y 21 rfl rfl 0 (by decide) w_field_Y_18_Y_0 rfl d_Y_add_32 ?_
    refine z_iconst (v := 1) hX d_Y_add_35 (by decide) ?_
    refine z_iadd hX d_Y_add_36 ?_
    refine z_put (C := R_Y) (T := F_Y) (N := 3) (wl := zwC ad ca) (ex := ex) (x9 := (zF s29 520 ((s29.1 520 0) + (1 : Int32)))) hX in_Y t_Y t_Y_ok n_Y 21 rfl rfl 0 (by decide) w_field_Y_18_Y_0 rfl rfl rfl (Nat.le_of_ble_eq_true rfl) rfl d_Y_add_37 (fun s37 => ?_)
    refine z_iload_n (i := 3) hX d_Y_add_40 rfl rfl ?_
    exact z_iret hR d_Y_add_41
  · refine z_iconst (v := -1) hX d_Y_add_9 (by decide) ?_
    exact z_iret hR d_Y_add_10
def fn_P_policy (x1 : Int32) (x2 : Int32) (σ : zS) : Option (Int32 × zS) := zb (fn_P_isUpTo x1 (9 : Int32) σ) (fun r3 s3 => if r3 = 0 then some ((-1 : Int32), s3) else zb (fn_Y_add x1 x2 s3) (fun r17 s17 => some (r17, s17)))
set_option maxRecDepth 100000 in
set_option maxHeartbeats 4000000 in
theorem ct_P_policy (l : Launch) (D : va_G) (ad : Nat → Nat) (ca : Nat → ClassId) (x1 : Int32) (x2 : Int32) (σ : zS) : zC zemI l y_P_policy (Cond.code y_P_policy b_P_policy 3 (some .int) :: zTT) (zrm 1 23) D zcl (zKK D ca) (zwC ad ca) σ [.ref (ad 0), .int x1, .int x2] (fn_P_policy x1 x2 σ) := by
  refine zmk_i (tys := zty ca) (by decide) (zKK_m D ca) (fun _ h => h.1) (Nat.le_of_ble_eq_true rfl) (fun V ex hX hR => ?_)
  show zJ V (zb (fn_P_isUpTo x1 (9 : Int32) σ) (fun r3 s3 => if r3 = 0 then some ((-1 : Int32), s3) else zb (fn_Y_add x1 x2 s3) (fun r17 s17 => some (r17, s17)))) (zwC ad ca σ ++ ex) 0 [(0, .ref (ad 0)), (1, .int x1), (2, .int x2)] []
  refine z_iload_n (i := 1) hX d_P_policy_0 rfl rfl ?_
  refine z_bipush (v := 9) hX d_P_policy_1 (by decide) ?_
  refine z_callSi (wl := zwC ad ca) (n := 2) (rest := []) hX [.int x1, .int (9 : Int32)] (ct_P_isUpTo l D ca (zwC ad ca) x1 (9 : Int32) σ) gS_P_47 ⟨rfl, rfl⟩ ⟨by decide, by decide⟩ (by decide +kernel) rfl rfl (Nat.le_of_ble_eq_true rfl) d_P_policy_3 (fun r3 s3 => ?_)
  refine z_if_ne (tgt := 11) hX d_P_policy_6 (by decide) (fun c6 => ?_) (fun c6 => ?_)
  · refine z_iconst (v := -1) hX d_P_policy_9 (by decide) ?_
    exact z_iret hR d_P_policy_10
  · refine z_aload_n (i := 0) hX d_P_policy_11 rfl rfl ?_
    refine z_get (C := R_P) (T := F_P) (N := 7) hX in_P 0 rfl rfl 2 (by decide) w_field_P_26_P_2 rfl d_P_policy_12 ?_
    refine z_iload_n (i := 1) hX d_P_policy_15 rfl rfl ?_
    refine z_iload_n (i := 2) hX d_P_policy_16 rfl rfl ?_
    refine z_callVi (wl := zwC ad ca) (C := R_Y) (n := 2) (rest := []) hX [.int x1, .int x2] (ct_Y_add l D ad ca x1 x2 s3) gV_P_86 ⟨rfl, rfl⟩ ⟨by decide, by decide⟩ (by decide +kernel) rfl 21 rfl rfl rfl rfl (Nat.le_of_ble_eq_true rfl) d_P_policy_17 (fun r17 s17 => ?_)
    exact z_iret hR d_P_policy_20
def fn_P_hasBit (x0 : Int32) (x1 : Int32) (σ : zS) : Option (Int32 × zS) := if x1 < 0 then some ((0 : Int32), σ) else if ((zush x0 x1) &&& (1 : Int32)) = 0 then some ((0 : Int32), σ) else some ((1 : Int32), σ)
set_option maxRecDepth 100000 in
set_option maxHeartbeats 4000000 in
theorem ct_P_hasBit (l : Launch) (D : va_G) (ca : Nat → ClassId) (wl : zS → va_W) (x0 : Int32) (x1 : Int32) (σ : zS) : zC zemI l y_P_hasBit (Cond.code y_P_hasBit b_P_hasBit 2 (some .boolean) :: zTT) (zrm 0 0) D zcl (zKK D ca) wl σ [.int x0, .int x1] (fn_P_hasBit x0 x1 σ) := by
  refine zmk_z (tys := zty ca) (by decide) (zKK_m D ca) (fun _ h => h.1) (Nat.le_of_ble_eq_true rfl) (fun V ex hX hR => ?_)
  show zJ V (if x1 < 0 then some ((0 : Int32), σ) else if ((zush x0 x1) &&& (1 : Int32)) = 0 then some ((0 : Int32), σ) else some ((1 : Int32), σ)) (wl σ ++ ex) 0 [(0, .int x0), (1, .int x1)] []
  refine z_iload_n (i := 1) hX d_P_hasBit_0 rfl rfl ?_
  refine z_if_lt (tgt := 16) hX d_P_hasBit_1 (by decide) (fun c1 => ?_) (fun c1 => ?_)
  · refine z_iconst (v := 0) hX d_P_hasBit_16 (by decide) ?_
    exact z_zret hR rfl d_P_hasBit_17
  · refine z_iload_n (i := 0) hX d_P_hasBit_4 rfl rfl ?_
    refine z_iload_n (i := 1) hX d_P_hasBit_5 rfl rfl ?_
    refine z_iushr hX d_P_hasBit_6 ?_
    refine z_iconst (v := 1) hX d_P_hasBit_7 (by decide) ?_
    refine z_iand hX d_P_hasBit_8 ?_
    refine z_if_eq (tgt := 16) hX d_P_hasBit_9 (by decide) (fun c9 => ?_) (fun c9 => ?_)
    · refine z_iconst (v := 0) hX d_P_hasBit_16 (by decide) ?_
      exact z_zret hR rfl d_P_hasBit_17
    · refine z_iconst (v := 1) hX d_P_hasBit_12 (by decide) ?_
      refine z_goto (tgt := 17) hX d_P_hasBit_13 (by decide) ?_
      exact z_zret hR rfl d_P_hasBit_17
def fn_Q_reach_w (x1 : Int32) (σ : zS) : Option (Unit × zS) := if x1 = (-1 : Int32) then some ((), σ) else zb (fn_P_hasBit (σ.1 622 0) x1 σ) (fun r10 s10 => if r10 = 0 then if (s10.1 620 0) < (32 : Int32) then zst (zF s10 622 ((s10.1 622 0) ||| (zshl (1 : Int32) x1))) (fun s35 => zgd (zin (s35.1 620 0) 32) (zst (zI s35 27 (s35.1 620 0).toNatClampNeg x1) (fun s47 => zst (zF s47 620 ((s47.1 620 0) + (1 : Int32))) (fun s55 => some ((), s55))))) else some ((), s10) else some ((), s10))
set_option maxRecDepth 100000 in
set_option maxHeartbeats 4000000 in
theorem ct_Q_reach_w (l : Launch) (D : va_G) (ad : Nat → Nat) (ca : Nat → ClassId) (x1 : Int32) (σ : zS) : zC zemV l y_Q_reach (Cond.code y_Q_reach b_Q_reach 2 none :: zTT) (zrm 1 21) D zcl (zKK D ca) (zwC ad ca) σ [.ref (ad 26), .int x1] (fn_Q_reach_w x1 σ) := by
  refine zmk_v (tys := zty ca) (by decide) (zKK_m D ca) (fun _ h => h.1) (Nat.le_of_ble_eq_true rfl) (fun V ex hX hR => ?_)
  show zJ V (if x1 = (-1 : Int32) then some ((), σ) else zb (fn_P_hasBit (σ.1 622 0) x1 σ) (fun r10 s10 => if r10 = 0 then if (s10.1 620 0) < (32 : Int32) then zst (zF s10 622 ((s10.1 622 0) ||| (zshl (1 : Int32) x1))) (fun s35 => zgd (zin (s35.1 620 0) 32) (zst (zI s35 27 (s35.1 620 0).toNatClampNeg x1) (fun s47 => zst (zF s47 620 ((s47.1 620 0) + (1 : Int32))) (fun s55 => some ((), s55))))) else some ((), s10) else some ((), s10))) (zwC ad ca σ ++ ex) 0 [(0, .ref (ad 26)), (1, .int x1)] []
  refine z_iload_n (i := 1) hX d_Q_reach_0 rfl rfl ?_
  refine z_iconst (v := -1) hX d_Q_reach_1 (by decide) ?_
  refine z_icmp_eq (tgt := 25) hX d_Q_reach_2 (by decide) (fun c2 => ?_) (fun c2 => ?_)
  · exact z_vret hR d_Q_reach_25
  · refine z_aload_n (i := 0) hX d_Q_reach_5 rfl rfl ?_
    refine z_get (C := R_Q) (T := F_Q) (N := 3) hX in_Q 26 rfl rfl 2 (by decide) w_field_Q_19_Q_2 rfl d_Q_reach_6 ?_
    refine z_iload_n (i := 1) hX d_Q_reach_9 rfl rfl ?_
    refine z_callSNi (wl := zwC ad ca) (n := 2) (rest := []) hX [.int (σ.1 622 0), .int x1] (ct_P_hasBit l D ca (zwC ad ca) (σ.1 622 0) x1 σ) gN_Q_41 (gN_Q_41_k D ca) w_stat_P_hasBit w_init_P ⟨rfl, rfl⟩ ⟨by decide, by decide⟩ (by decide +kernel) rfl rfl (Nat.le_of_ble_eq_true rfl) d_Q_reach_10 (fun r10 s10 => ?_)
    refine z_if_ne (tgt := 25) hX d_Q_reach_13 (by decide) (fun c13 => ?_) (fun c13 => ?_)
    · refine z_aload_n (i := 0) hX d_Q_reach_16 rfl rfl ?_
      refine z_get (C := R_Q) (T := F_Q) (N := 3) hX in_Q 26 rfl rfl 0 (by decide) w_field_Q_15_Q_0 rfl d_Q_reach_17 ?_
      refine z_bipush (v := 32) hX d_Q_reach_20 (by decide) ?_
      refine z_icmp_lt (tgt := 26) hX d_Q_reach_22 (by decide) (fun c22 => ?_) (fun c22 => ?_)
      · refine z_aload_n (i := 0) hX d_Q_reach_26 rfl rfl ?_
        refine z_dup hX d_Q_reach_27 rfl ?_
        refine z_get (C := R_Q) (T := F_Q) (N := 3) hX in_Q 26 rfl rfl 2 (by decide) w_field_Q_19_Q_2 rfl d_Q_reach_28 ?_
        refine z_iconst (v := 1) hX d_Q_reach_31 (by decide) ?_
        refine z_iload_n (i := 1) hX d_Q_reach_32 rfl rfl ?_
        refine z_ishl hX d_Q_reach_33 ?_
        refine z_ior hX d_Q_reach_34 ?_
        refine z_put (C := R_Q) (T := F_Q) (N := 3) (wl := zwC ad ca) (ex := ex) (x9 := (zF s10 622 ((s10.1 622 0) ||| (zshl (1 : Int32) x1)))) hX in_Q t_Q t_Q_ok n_Q 26 rfl rfl 2 (by decide) w_field_Q_19_Q_2 rfl rfl rfl (Nat.le_of_ble_eq_true rfl) rfl d_Q_reach_35 (fun s35 => ?_)
        refine z_aload_n (i := 0) hX d_Q_reach_38 rfl rfl ?_
        refine z_get (C := R_Q) (T := F_Q) (N := 3) hX in_Q 26 rfl rfl 1 (by decide) w_field_Q_9_Q_1 rfl d_Q_reach_39 ?_
        refine z_aload_n (i := 0) hX d_Q_reach_42 rfl rfl ?_
        refine z_get (C := R_Q) (T := F_Q) (N := 3) hX in_Q 26 rfl rfl 0 (by decide) w_field_Q_15_Q_0 rfl d_Q_reach_43 ?_
        refine z_iload_n (i := 1) hX d_Q_reach_46 rfl rfl ?_
        refine z_iast (wl := zwC ad ca) (ex := ex) (x9 := (zI s35 27 (s35.1 620 0).toNatClampNeg x1)) hX 27 19 rfl rfl rfl d_Q_reach_47 (fun s47 => ?_)
        refine z_aload_n (i := 0) hX d_Q_reach_48 rfl rfl ?_
        refine z_dup hX d_Q_reach_49 rfl ?_
        refine z_get (C := R_Q) (T := F_Q) (N := 3) hX in_Q 26 rfl rfl 0 (by decide) w_field_Q_15_Q_0 rfl d_Q_reach_50 ?_
        refine z_iconst (v := 1) hX d_Q_reach_53 (by decide) ?_
        refine z_iadd hX d_Q_reach_54 ?_
        refine z_put (C := R_Q) (T := F_Q) (N := 3) (wl := zwC ad ca) (ex := ex) (x9 := (zF s47 620 ((s47.1 620 0) + (1 : Int32)))) hX in_Q t_Q t_Q_ok n_Q 26 rfl rfl 0 (by decide) w_field_Q_15_Q_0 rfl rfl rfl (Nat.le_of_ble_eq_true rfl) rfl d_Q_reach_55 (fun s55 => ?_)
        exact z_vret hR d_Q_reach_58
      · exact z_vret hR d_Q_reach_25
    · exact z_vret hR d_Q_reach_25
def fn_Q_walk_w_42 (k17 : Int32 → zS → Option (Unit × zS)) : Nat → Int32 → Int32 → Int32 → zS → Option (Unit × zS)
  | 0, _, _, _, _ => none
  | n + 1, x3, x4, x5, σ => zgd (zin x4 32) (if x5 < (σ.1 16 x4.toNatClampNeg) then zb (fn_A_metByAt x4 x5 σ) (fun r63 s63 => zb (fn_Q_reach_w r63 s63) (fun r66 s66 => fn_Q_walk_w_42 k17 n x3 x4 (x5 + 1) s66)) else k17 (x3 + 1) σ)
set_option maxRecDepth 100000 in
set_option maxHeartbeats 4000000 in
theorem bk_Q_walk_w_42 (l : Launch) (D : va_G) (ad : Nat → Nat) (ca : Nat → ClassId) {V : zV Unit} {ex : va_W} (hX : zIs V l b_Q_walk R_Q zTT (zKK D ca) D zcl (zty ca) 6 (zrm 2 42)) (hR : zRv V b_Q_walk (zwC ad ca) ex) (k17 : Int32 → zS → Option (Unit × zS)) (hk17 : ∀ (z3 : Int32) (σ : zS), zJ V (k17 z3 σ) (zwC ad ca σ ++ ex) 17 [(0, .ref (ad 26)), (1, .ref (ad 6)), (3, .int z3)] []) : ∀ (n : Nat) (x3 : Int32) (x4 : Int32) (x5 : Int32) (σ : zS), zJ V (fn_Q_walk_w_42 k17 n x3 x4 x5 σ) (zwC ad ca σ ++ ex) 42 [(0, .ref (ad 26)), (1, .ref (ad 6)), (3, .int x3), (4, .int x4), (5, .int x5)] [] := by
  intro n
  induction n with
  | zero => intros; exact z_none
  | succ n ih =>
    intro x3 x4 x5 σ
    show zJ V (zgd (zin x4 32) (if x5 < (σ.1 16 x4.toNatClampNeg) then zb (fn_A_metByAt x4 x5 σ) (fun r63 s63 => zb (fn_Q_reach_w r63 s63) (fun r66 s66 => fn_Q_walk_w_42 k17 n x3 x4 (x5 + 1) s66)) else k17 (x3 + 1) σ)) _ _ _ _
    refine z_iload (i := 5) hX d_Q_walk_42 rfl ?_
    refine z_aload_n (i := 1) hX d_Q_walk_44 rfl rfl ?_
    refine z_get (C := R_A) (T := F_A) (N := 11) hX in_A 6 rfl rfl 7 (by decide) w_field_Q_26_A_7 rfl d_Q_walk_45 ?_
    refine z_get (C := R_W) (T := F_W) (N := 2) hX in_W 15 rfl rfl 0 (by decide) w_field_Q_32_W_0 rfl d_Q_walk_48 ?_
    refine z_iload (i := 4) hX d_Q_walk_51 rfl ?_
    refine z_iald hX 16 11 rfl rfl d_Q_walk_53 ?_
    refine z_icmp_ge (tgt := 75) hX d_Q_walk_54 (by decide) (fun c54 => ?_) (fun c54 => ?_)
    · refine z_aload_n (i := 0) hX d_Q_walk_57 rfl rfl ?_
      refine z_aload_n (i := 1) hX d_Q_walk_58 rfl rfl ?_
      refine z_iload (i := 4) hX d_Q_walk_59 rfl ?_
      refine z_iload (i := 5) hX d_Q_walk_61 rfl ?_
      refine z_callVi (wl := zwC ad ca) (C := R_A) (n := 2) (rest := [.ref (ad 26)]) hX [.int x4, .int x5] (ct_A_metByAt l D ad ca x4 x5 σ) gV_Q_37 ⟨rfl, rfl⟩ ⟨by decide, by decide⟩ (by decide +kernel) rfl 6 rfl rfl rfl rfl (Nat.le_of_ble_eq_true rfl) d_Q_walk_63 (fun r63 s63 => ?_)
      refine z_callVv (wl := zwC ad ca) (C := R_Q) (n := 1) (rest := []) hX [.int r63] (ct_Q_reach_w l D ad ca r63 s63) gV_Q_22 ⟨rfl, rfl⟩ ⟨by decide, by decide⟩ (by decide +kernel) rfl 26 rfl rfl rfl rfl (Nat.le_of_ble_eq_true rfl) d_Q_walk_66 (fun r66 s66 => ?_)
      refine z_iinc (v := x5 + 1) (lv2 := [(5, .int (x5 + 1)), (0, .ref (ad 26)), (1, .ref (ad 6)), (3, .int x3), (4, .int x4)]) hX d_Q_walk_69 4 rfl (by first | rfl | decide) (by decide) rfl ?_
      refine z_goto (tgt := 42) hX d_Q_walk_72 (by decide) ?_
      refine z_lv hX [1, 2, 3, 4, 0] (lv2 := [(0, .ref (ad 26)), (1, .ref (ad 6)), (3, .int x3), (4, .int x4), (5, .int (x5 + 1))]) rfl ?_
      exact ih _ _ _ _
    · refine z_iinc (v := x3 + 1) (lv2 := [(3, .int (x3 + 1)), (0, .ref (ad 26)), (1, .ref (ad 6)), (4, .int x4), (5, .int x5)]) hX d_Q_walk_75 2 rfl (by first | rfl | decide) (by decide) rfl ?_
      refine z_goto (tgt := 17) hX d_Q_walk_78 (by decide) ?_
      refine z_lv hX [1, 2, 0] (lv2 := [(0, .ref (ad 26)), (1, .ref (ad 6)), (3, .int (x3 + 1))]) rfl ?_
      exact hk17 _ _
def fn_Q_walk_w_17 : Nat → Int32 → zS → Option (Unit × zS)
  | 0, _, _ => none
  | n + 1, x3, σ => if x3 < (32 : Int32) then if x3 < (σ.1 620 0) then zgd (zin x3 32) (fn_Q_walk_w_42 (fn_Q_walk_w_17 n) 100 x3 (σ.1 27 x3.toNatClampNeg) (0 : Int32) σ) else some ((), σ) else some ((), σ)
set_option maxRecDepth 100000 in
set_option maxHeartbeats 4000000 in
theorem bk_Q_walk_w_17 (l : Launch) (D : va_G) (ad : Nat → Nat) (ca : Nat → ClassId) {V : zV Unit} {ex : va_W} (hX : zIs V l b_Q_walk R_Q zTT (zKK D ca) D zcl (zty ca) 6 (zrm 2 42)) (hR : zRv V b_Q_walk (zwC ad ca) ex) : ∀ (n : Nat) (x3 : Int32) (σ : zS), zJ V (fn_Q_walk_w_17 n x3 σ) (zwC ad ca σ ++ ex) 17 [(0, .ref (ad 26)), (1, .ref (ad 6)), (3, .int x3)] [] := by
  intro n
  induction n with
  | zero => intros; exact z_none
  | succ n ih =>
    intro x3 σ
    show zJ V (if x3 < (32 : Int32) then if x3 < (σ.1 620 0) then zgd (zin x3 32) (fn_Q_walk_w_42 (fn_Q_walk_w_17 n) 100 x3 (σ.1 27 x3.toNatClampNeg) (0 : Int32) σ) else some ((), σ) else some ((), σ)) _ _ _ _
    refine z_iload_n (i := 3) hX d_Q_walk_17 rfl rfl ?_
    refine z_bipush (v := 32) hX d_Q_walk_18 (by decide) ?_
    refine z_icmp_ge (tgt := 81) hX d_Q_walk_20 (by decide) (fun c20 => ?_) (fun c20 => ?_)
    · refine z_iload_n (i := 3) hX d_Q_walk_23 rfl rfl ?_
      refine z_aload_n (i := 0) hX d_Q_walk_24 rfl rfl ?_
      refine z_get (C := R_Q) (T := F_Q) (N := 3) hX in_Q 26 rfl rfl 0 (by decide) w_field_Q_15_Q_0 rfl d_Q_walk_25 ?_
      refine z_icmp_ge (tgt := 81) hX d_Q_walk_28 (by decide) (fun c28 => ?_) (fun c28 => ?_)
      · refine z_aload_n (i := 0) hX d_Q_walk_31 rfl rfl ?_
        refine z_get (C := R_Q) (T := F_Q) (N := 3) hX in_Q 26 rfl rfl 1 (by decide) w_field_Q_9_Q_1 rfl d_Q_walk_32 ?_
        refine z_iload_n (i := 3) hX d_Q_walk_35 rfl rfl ?_
        refine z_iald hX 27 19 rfl rfl d_Q_walk_36 ?_
        refine z_istore (i := 4) (lv2 := [(4, .int (σ.1 27 x3.toNatClampNeg)), (0, .ref (ad 26)), (1, .ref (ad 6)), (3, .int x3)]) hX d_Q_walk_37 (by decide) rfl ?_
        refine z_iconst (v := 0) hX d_Q_walk_39 (by decide) ?_
        refine z_istore (i := 5) (lv2 := [(5, .int (0 : Int32)), (4, .int (σ.1 27 x3.toNatClampNeg)), (0, .ref (ad 26)), (1, .ref (ad 6)), (3, .int x3)]) hX d_Q_walk_40 (by decide) rfl ?_
        refine z_lv hX [2, 3, 4, 1, 0] (lv2 := [(0, .ref (ad 26)), (1, .ref (ad 6)), (3, .int x3), (4, .int (σ.1 27 x3.toNatClampNeg)), (5, .int (0 : Int32))]) rfl ?_
        exact bk_Q_walk_w_42 l D ad ca hX hR (fn_Q_walk_w_17 n) ih 100 _ _ _ _
      · exact z_vret hR d_Q_walk_81
    · exact z_vret hR d_Q_walk_81
def fn_Q_walk_w (x2 : Int32) (σ : zS) : Option (Unit × zS) := zst (zF σ 620 (0 : Int32)) (fun s2 => zst (zF s2 622 (0 : Int32)) (fun s7 => zb (fn_Q_reach_w x2 s7) (fun r12 s12 => fn_Q_walk_w_17 100 (0 : Int32) s12)))
set_option maxRecDepth 100000 in
set_option maxHeartbeats 4000000 in
theorem ct_Q_walk_w (l : Launch) (D : va_G) (ad : Nat → Nat) (ca : Nat → ClassId) (x2 : Int32) (σ : zS) : zC zemV l y_Q_walk (Cond.code y_Q_walk b_Q_walk 6 none :: zTT) (zrm 2 42) D zcl (zKK D ca) (zwC ad ca) σ [.ref (ad 26), .ref (ad 6), .int x2] (fn_Q_walk_w x2 σ) := by
  refine zmk_v (tys := zty ca) (by decide) (zKK_m D ca) (fun _ h => h.1) (Nat.le_of_ble_eq_true rfl) (fun V ex hX hR => ?_)
  show zJ V (zst (zF σ 620 (0 : Int32)) (fun s2 => zst (zF s2 622 (0 : Int32)) (fun s7 => zb (fn_Q_reach_w x2 s7) (fun r12 s12 => fn_Q_walk_w_17 100 (0 : Int32) s12)))) (zwC ad ca σ ++ ex) 0 [(0, .ref (ad 26)), (1, .ref (ad 6)), (2, .int x2)] []
  refine z_aload_n (i := 0) hX d_Q_walk_0 rfl rfl ?_
  refine z_iconst (v := 0) hX d_Q_walk_1 (by decide) ?_
  refine z_put (C := R_Q) (T := F_Q) (N := 3) (wl := zwC ad ca) (ex := ex) (x9 := (zF σ 620 (0 : Int32))) hX in_Q t_Q t_Q_ok n_Q 26 rfl rfl 0 (by decide) w_field_Q_15_Q_0 rfl rfl rfl (Nat.le_of_ble_eq_true rfl) rfl d_Q_walk_2 (fun s2 => ?_)
  refine z_aload_n (i := 0) hX d_Q_walk_5 rfl rfl ?_
  refine z_iconst (v := 0) hX d_Q_walk_6 (by decide) ?_
  refine z_put (C := R_Q) (T := F_Q) (N := 3) (wl := zwC ad ca) (ex := ex) (x9 := (zF s2 622 (0 : Int32))) hX in_Q t_Q t_Q_ok n_Q 26 rfl rfl 2 (by decide) w_field_Q_19_Q_2 rfl rfl rfl (Nat.le_of_ble_eq_true rfl) rfl d_Q_walk_7 (fun s7 => ?_)
  refine z_aload_n (i := 0) hX d_Q_walk_10 rfl rfl ?_
  refine z_iload_n (i := 2) hX d_Q_walk_11 rfl rfl ?_
  refine z_callVv (wl := zwC ad ca) (C := R_Q) (n := 1) (rest := []) hX [.int x2] (ct_Q_reach_w l D ad ca x2 s7) gV_Q_22 ⟨rfl, rfl⟩ ⟨by decide, by decide⟩ (by decide +kernel) rfl 26 rfl rfl rfl rfl (Nat.le_of_ble_eq_true rfl) d_Q_walk_12 (fun r12 s12 => ?_)
  refine z_iconst (v := 0) hX d_Q_walk_15 (by decide) ?_
  refine z_istore_n (i := 3) (lv2 := [(3, .int (0 : Int32)), (0, .ref (ad 26)), (1, .ref (ad 6)), (2, .int x2)]) hX d_Q_walk_16 rfl (by decide) rfl ?_
  refine z_lv hX [1, 2, 0] (lv2 := [(0, .ref (ad 26)), (1, .ref (ad 6)), (3, .int (0 : Int32))]) rfl ?_
  exact bk_Q_walk_w_17 l D ad ca hX hR 100 _ _
def fn_A_usedAt (x1 : Int32) (x2 : Int32) (σ : zS) : Option (Int32 × zS) := zb (fn_W_valueAt_u x1 x2 σ) (fun r6 s6 => some (r6.toInt32, s6))
set_option maxRecDepth 100000 in
set_option maxHeartbeats 4000000 in
theorem ct_A_usedAt (l : Launch) (D : va_G) (ad : Nat → Nat) (ca : Nat → ClassId) (x1 : Int32) (x2 : Int32) (σ : zS) : zC zemI l y_A_usedAt (Cond.code y_A_usedAt b_A_usedAt 3 (some .int) :: zTT) (zrm 1 22) D zcl (zKK D ca) (zwC ad ca) σ [.ref (ad 6), .int x1, .int x2] (fn_A_usedAt x1 x2 σ) := by
  refine zmk_i (tys := zty ca) (by decide) (zKK_m D ca) (fun _ h => h.1) (Nat.le_of_ble_eq_true rfl) (fun V ex hX hR => ?_)
  show zJ V (zb (fn_W_valueAt_u x1 x2 σ) (fun r6 s6 => some (r6.toInt32, s6))) (zwC ad ca σ ++ ex) 0 [(0, .ref (ad 6)), (1, .int x1), (2, .int x2)] []
  refine z_aload_n (i := 0) hX d_A_usedAt_0 rfl rfl ?_
  refine z_get (C := R_A) (T := F_A) (N := 11) hX in_A 6 rfl rfl 6 (by decide) w_field_A_31_A_6 rfl d_A_usedAt_1 ?_
  refine z_iload_n (i := 1) hX d_A_usedAt_4 rfl rfl ?_
  refine z_iload_n (i := 2) hX d_A_usedAt_5 rfl rfl ?_
  refine z_callVl (wl := zwC ad ca) (C := R_W) (n := 2) (rest := []) hX [.int x1, .int x2] (ct_W_valueAt_u l D ad ca x1 x2 σ) gV_A_58 ⟨rfl, rfl⟩ ⟨by decide, by decide⟩ (by decide +kernel) rfl 12 rfl rfl rfl rfl (Nat.le_of_ble_eq_true rfl) d_A_usedAt_6 (fun r6 s6 => ?_)
  refine z_l2i hX d_A_usedAt_9 ?_
  exact z_iret hR d_A_usedAt_10
def fn_P_usesBranchOutside_2 : Nat → Int32 → Int32 → Int32 → zS → Option (Int32 × zS)
  | 0, _, _, _, _ => none
  | n + 1, x1, x2, x3, σ => zgd (zin x1 32) (if x3 < (σ.1 13 x1.toNatClampNeg) then zb (fn_A_usedAt x1 x3 σ) (fun r32 s32 => zgd (zin r32 24) (zb (fn_P_hasBit x2 (s32.1 3 r32.toNatClampNeg) s32) (fun r36 s36 => if r36 = 0 then some ((1 : Int32), s36) else fn_P_usesBranchOutside_2 n x1 x2 (x3 + 1) s36))) else some ((0 : Int32), σ))
set_option maxRecDepth 100000 in
set_option maxHeartbeats 4000000 in
theorem bk_P_usesBranchOutside_2 (l : Launch) (D : va_G) (ad : Nat → Nat) (ca : Nat → ClassId) {V : zV Int32} {ex : va_W} (hX : zIs V l b_P_usesBranchOutside R_P zTT (zKK D ca) D zcl (zty ca) 4 (zrm 2 44)) (hR : zRz V b_P_usesBranchOutside (zwC ad ca) ex) : ∀ (n : Nat) (x1 : Int32) (x2 : Int32) (x3 : Int32) (σ : zS), zJ V (fn_P_usesBranchOutside_2 n x1 x2 x3 σ) (zwC ad ca σ ++ ex) 2 [(0, .ref (ad 0)), (1, .int x1), (2, .int x2), (3, .int x3)] [] := by
  intro n
  induction n with
  | zero => intros; exact z_none
  | succ n ih =>
    intro x1 x2 x3 σ
    show zJ V (zgd (zin x1 32) (if x3 < (σ.1 13 x1.toNatClampNeg) then zb (fn_A_usedAt x1 x3 σ) (fun r32 s32 => zgd (zin r32 24) (zb (fn_P_hasBit x2 (s32.1 3 r32.toNatClampNeg) s32) (fun r36 s36 => if r36 = 0 then some ((1 : Int32), s36) else fn_P_usesBranchOutside_2 n x1 x2 (x3 + 1) s36))) else some ((0 : Int32), σ))) _ _ _ _
    refine z_iload_n (i := 3) hX d_P_usesBranchOutside_2 rfl rfl ?_
    refine z_aload_n (i := 0) hX d_P_usesBranchOutside_3 rfl rfl ?_
    refine z_get (C := R_P) (T := F_P) (N := 7) hX in_P 0 rfl rfl 1 (by decide) w_field_P_19_P_1 rfl d_P_usesBranchOutside_4 ?_
    refine z_get (C := R_A) (T := F_A) (N := 11) hX in_A 6 rfl rfl 6 (by decide) w_field_P_69_A_6 rfl d_P_usesBranchOutside_7 ?_
    refine z_get (C := R_W) (T := F_W) (N := 2) hX in_W 12 rfl rfl 0 (by decide) w_field_P_176_W_0 rfl d_P_usesBranchOutside_10 ?_
    refine z_iload_n (i := 1) hX d_P_usesBranchOutside_13 rfl rfl ?_
    refine z_iald hX 13 9 rfl rfl d_P_usesBranchOutside_14 ?_
    refine z_icmp_ge (tgt := 50) hX d_P_usesBranchOutside_15 (by decide) (fun c15 => ?_) (fun c15 => ?_)
    · refine z_iload_n (i := 2) hX d_P_usesBranchOutside_18 rfl rfl ?_
      refine z_aload_n (i := 0) hX d_P_usesBranchOutside_19 rfl rfl ?_
      refine z_get (C := R_P) (T := F_P) (N := 7) hX in_P 0 rfl rfl 0 (by decide) w_field_P_10_P_0 rfl d_P_usesBranchOutside_20 ?_
      refine z_get (C := R_S) (T := F_S) (N := 5) hX in_S 1 rfl rfl 2 (by decide) w_field_P_179_S_2 rfl d_P_usesBranchOutside_23 ?_
      refine z_aload_n (i := 0) hX d_P_usesBranchOutside_26 rfl rfl ?_
      refine z_get (C := R_P) (T := F_P) (N := 7) hX in_P 0 rfl rfl 1 (by decide) w_field_P_19_P_1 rfl d_P_usesBranchOutside_27 ?_
      refine z_iload_n (i := 1) hX d_P_usesBranchOutside_30 rfl rfl ?_
      refine z_iload_n (i := 3) hX d_P_usesBranchOutside_31 rfl rfl ?_
      refine z_callVi (wl := zwC ad ca) (C := R_A) (n := 2) (rest := [.ref (ad 3), .int x2]) hX [.int x1, .int x3] (ct_A_usedAt l D ad ca x1 x3 σ) gV_P_182 ⟨rfl, rfl⟩ ⟨by decide, by decide⟩ (by decide +kernel) rfl 6 rfl rfl rfl rfl (Nat.le_of_ble_eq_true rfl) d_P_usesBranchOutside_32 (fun r32 s32 => ?_)
      refine z_iald hX 3 1 rfl rfl d_P_usesBranchOutside_35 ?_
      refine z_callSi (wl := zwC ad ca) (n := 2) (rest := []) hX [.int x2, .int (s32.1 3 r32.toNatClampNeg)] (ct_P_hasBit l D ca (zwC ad ca) x2 (s32.1 3 r32.toNatClampNeg) s32) gS_P_155 ⟨rfl, rfl⟩ ⟨by decide, by decide⟩ (by decide +kernel) rfl rfl (Nat.le_of_ble_eq_true rfl) d_P_usesBranchOutside_36 (fun r36 s36 => ?_)
      refine z_if_ne (tgt := 44) hX d_P_usesBranchOutside_39 (by decide) (fun c39 => ?_) (fun c39 => ?_)
      · refine z_iconst (v := 1) hX d_P_usesBranchOutside_42 (by decide) ?_
        exact z_zret hR rfl d_P_usesBranchOutside_43
      · refine z_iinc (v := x3 + 1) (lv2 := [(3, .int (x3 + 1)), (0, .ref (ad 0)), (1, .int x1), (2, .int x2)]) hX d_P_usesBranchOutside_44 3 rfl (by first | rfl | decide) (by decide) rfl ?_
        refine z_goto (tgt := 2) hX d_P_usesBranchOutside_47 (by decide) ?_
        refine z_lv hX [1, 2, 3, 0] (lv2 := [(0, .ref (ad 0)), (1, .int x1), (2, .int x2), (3, .int (x3 + 1))]) rfl ?_
        exact ih _ _ _ _
    · refine z_iconst (v := 0) hX d_P_usesBranchOutside_50 (by decide) ?_
      exact z_zret hR rfl d_P_usesBranchOutside_51
def fn_P_usesBranchOutside (x1 : Int32) (x2 : Int32) (σ : zS) : Option (Int32 × zS) := fn_P_usesBranchOutside_2 100 x1 x2 (0 : Int32) σ
set_option maxRecDepth 100000 in
set_option maxHeartbeats 4000000 in
theorem ct_P_usesBranchOutside (l : Launch) (D : va_G) (ad : Nat → Nat) (ca : Nat → ClassId) (x1 : Int32) (x2 : Int32) (σ : zS) : zC zemI l y_P_usesBranchOutside (Cond.code y_P_usesBranchOutside b_P_usesBranchOutside 4 (some .boolean) :: zTT) (zrm 2 44) D zcl (zKK D ca) (zwC ad ca) σ [.ref (ad 0), .int x1, .int x2] (fn_P_usesBranchOutside x1 x2 σ) := by
  refine zmk_z (tys := zty ca) (by decide) (zKK_m D ca) (fun _ h => h.1) (Nat.le_of_ble_eq_true rfl) (fun V ex hX hR => ?_)
  show zJ V (fn_P_usesBranchOutside_2 100 x1 x2 (0 : Int32) σ) (zwC ad ca σ ++ ex) 0 [(0, .ref (ad 0)), (1, .int x1), (2, .int x2)] []
  refine z_iconst (v := 0) hX d_P_usesBranchOutside_0 (by decide) ?_
  refine z_istore_n (i := 3) (lv2 := [(3, .int (0 : Int32)), (0, .ref (ad 0)), (1, .int x1), (2, .int x2)]) hX d_P_usesBranchOutside_1 rfl (by decide) rfl ?_
  refine z_lv hX [1, 2, 3, 0] (lv2 := [(0, .ref (ad 0)), (1, .int x1), (2, .int x2), (3, .int (0 : Int32))]) rfl ?_
  exact bk_P_usesBranchOutside_2 l D ad ca hX hR 100 _ _ _ _
def fn_Ig_bitCount (x0 : Int32) (σ : zS) : Option (Int32 × zS) := some ((((((((x0 - ((zush x0 (1 : Int32)) &&& (1431655765 : Int32))) &&& (858993459 : Int32)) + ((zush (x0 - ((zush x0 (1 : Int32)) &&& (1431655765 : Int32))) (2 : Int32)) &&& (858993459 : Int32))) + (zush (((x0 - ((zush x0 (1 : Int32)) &&& (1431655765 : Int32))) &&& (858993459 : Int32)) + ((zush (x0 - ((zush x0 (1 : Int32)) &&& (1431655765 : Int32))) (2 : Int32)) &&& (858993459 : Int32))) (4 : Int32))) &&& (252645135 : Int32)) + (zush (((((x0 - ((zush x0 (1 : Int32)) &&& (1431655765 : Int32))) &&& (858993459 : Int32)) + ((zush (x0 - ((zush x0 (1 : Int32)) &&& (1431655765 : Int32))) (2 : Int32)) &&& (858993459 : Int32))) + (zush (((x0 - ((zush x0 (1 : Int32)) &&& (1431655765 : Int32))) &&& (858993459 : Int32)) + ((zush (x0 - ((zush x0 (1 : Int32)) &&& (1431655765 : Int32))) (2 : Int32)) &&& (858993459 : Int32))) (4 : Int32))) &&& (252645135 : Int32)) (8 : Int32))) + (zush ((((((x0 - ((zush x0 (1 : Int32)) &&& (1431655765 : Int32))) &&& (858993459 : Int32)) + ((zush (x0 - ((zush x0 (1 : Int32)) &&& (1431655765 : Int32))) (2 : Int32)) &&& (858993459 : Int32))) + (zush (((x0 - ((zush x0 (1 : Int32)) &&& (1431655765 : Int32))) &&& (858993459 : Int32)) + ((zush (x0 - ((zush x0 (1 : Int32)) &&& (1431655765 : Int32))) (2 : Int32)) &&& (858993459 : Int32))) (4 : Int32))) &&& (252645135 : Int32)) + (zush (((((x0 - ((zush x0 (1 : Int32)) &&& (1431655765 : Int32))) &&& (858993459 : Int32)) + ((zush (x0 - ((zush x0 (1 : Int32)) &&& (1431655765 : Int32))) (2 : Int32)) &&& (858993459 : Int32))) + (zush (((x0 - ((zush x0 (1 : Int32)) &&& (1431655765 : Int32))) &&& (858993459 : Int32)) + ((zush (x0 - ((zush x0 (1 : Int32)) &&& (1431655765 : Int32))) (2 : Int32)) &&& (858993459 : Int32))) (4 : Int32))) &&& (252645135 : Int32)) (8 : Int32))) (16 : Int32))) &&& (63 : Int32), σ)
set_option maxRecDepth 100000 in
set_option maxHeartbeats 4000000 in
theorem ct_Ig_bitCount (l : Launch) (D : va_G) (ca : Nat → ClassId) (wl : zS → va_W) (x0 : Int32) (σ : zS) : zC zemI l y_Ig_bitCount (Cond.code y_Ig_bitCount b_Ig_bitCount 1 (some .int) :: zTT) (zrm 0 0) D zcl (zKK D ca) wl σ [.int x0] (fn_Ig_bitCount x0 σ) := by
  refine zmk_i (tys := zty ca) (by decide) (zKK_m D ca) (fun _ h => h.1) (Nat.le_of_ble_eq_true rfl) (fun V ex hX hR => ?_)
  show zJ V (some ((((((((x0 - ((zush x0 (1 : Int32)) &&& (1431655765 : Int32))) &&& (858993459 : Int32)) + ((zush (x0 - ((zush x0 (1 : Int32)) &&& (1431655765 : Int32))) (2 : Int32)) &&& (858993459 : Int32))) + (zush (((x0 - ((zush x0 (1 : Int32)) &&& (1431655765 : Int32))) &&& (858993459 : Int32)) + ((zush (x0 - ((zush x0 (1 : Int32)) &&& (1431655765 : Int32))) (2 : Int32)) &&& (858993459 : Int32))) (4 : Int32))) &&& (252645135 : Int32)) + (zush (((((x0 - ((zush x0 (1 : Int32)) &&& (1431655765 : Int32))) &&& (858993459 : Int32)) + ((zush (x0 - ((zush x0 (1 : Int32)) &&& (1431655765 : Int32))) (2 : Int32)) &&& (858993459 : Int32))) + (zush (((x0 - ((zush x0 (1 : Int32)) &&& (1431655765 : Int32))) &&& (858993459 : Int32)) + ((zush (x0 - ((zush x0 (1 : Int32)) &&& (1431655765 : Int32))) (2 : Int32)) &&& (858993459 : Int32))) (4 : Int32))) &&& (252645135 : Int32)) (8 : Int32))) + (zush ((((((x0 - ((zush x0 (1 : Int32)) &&& (1431655765 : Int32))) &&& (858993459 : Int32)) + ((zush (x0 - ((zush x0 (1 : Int32)) &&& (1431655765 : Int32))) (2 : Int32)) &&& (858993459 : Int32))) + (zush (((x0 - ((zush x0 (1 : Int32)) &&& (1431655765 : Int32))) &&& (858993459 : Int32)) + ((zush (x0 - ((zush x0 (1 : Int32)) &&& (1431655765 : Int32))) (2 : Int32)) &&& (858993459 : Int32))) (4 : Int32))) &&& (252645135 : Int32)) + (zush (((((x0 - ((zush x0 (1 : Int32)) &&& (1431655765 : Int32))) &&& (858993459 : Int32)) + ((zush (x0 - ((zush x0 (1 : Int32)) &&& (1431655765 : Int32))) (2 : Int32)) &&& (858993459 : Int32))) + (zush (((x0 - ((zush x0 (1 : Int32)) &&& (1431655765 : Int32))) &&& (858993459 : Int32)) + ((zush (x0 - ((zush x0 (1 : Int32)) &&& (1431655765 : Int32))) (2 : Int32)) &&& (858993459 : Int32))) (4 : Int32))) &&& (252645135 : Int32)) (8 : Int32))) (16 : Int32))) &&& (63 : Int32), σ)) (wl σ ++ ex) 0 [(0, .int x0)] []
  refine z_iload_n (i := 0) hX d_Ig_bitCount_0 rfl rfl ?_
  refine z_iload_n (i := 0) hX d_Ig_bitCount_1 rfl rfl ?_
  refine z_iconst (v := 1) hX d_Ig_bitCount_2 (by decide) ?_
  refine z_iushr hX d_Ig_bitCount_3 ?_
  refine z_ldcw (v := 1431655765) hX w_const_Ig_265_1431655765 d_Ig_bitCount_4 ?_
  refine z_iand hX d_Ig_bitCount_7 ?_
  refine z_isub hX d_Ig_bitCount_8 ?_
  refine z_istore_n (i := 0) (lv2 := [(0, .int (x0 - ((zush x0 (1 : Int32)) &&& (1431655765 : Int32))))]) hX d_Ig_bitCount_9 rfl (by decide) rfl ?_
  refine z_iload_n (i := 0) hX d_Ig_bitCount_10 rfl rfl ?_
  refine z_ldcw (v := 858993459) hX w_const_Ig_266_858993459 d_Ig_bitCount_11 ?_
  refine z_iand hX d_Ig_bitCount_14 ?_
  refine z_iload_n (i := 0) hX d_Ig_bitCount_15 rfl rfl ?_
  refine z_iconst (v := 2) hX d_Ig_bitCount_16 (by decide) ?_
  refine z_iushr hX d_Ig_bitCount_17 ?_
  refine z_ldcw (v := 858993459) hX w_const_Ig_266_858993459 d_Ig_bitCount_18 ?_
  refine z_iand hX d_Ig_bitCount_21 ?_
  refine z_iadd hX d_Ig_bitCount_22 ?_
  refine z_istore_n (i := 0) (lv2 := [(0, .int (((x0 - ((zush x0 (1 : Int32)) &&& (1431655765 : Int32))) &&& (858993459 : Int32)) + ((zush (x0 - ((zush x0 (1 : Int32)) &&& (1431655765 : Int32))) (2 : Int32)) &&& (858993459 : Int32))))]) hX d_Ig_bitCount_23 rfl (by decide) rfl ?_
  refine z_iload_n (i := 0) hX d_Ig_bitCount_24 rfl rfl ?_
  refine z_iload_n (i := 0) hX d_Ig_bitCount_25 rfl rfl ?_
  refine z_iconst (v := 4) hX d_Ig_bitCount_26 (by decide) ?_
  refine z_iushr hX d_Ig_bitCount_27 ?_
  refine z_iadd hX d_Ig_bitCount_28 ?_
  refine z_ldcw (v := 252645135) hX w_const_Ig_267_252645135 d_Ig_bitCount_29 ?_
  refine z_iand hX d_Ig_bitCount_32 ?_
  refine z_istore_n (i := 0) (lv2 := [(0, .int (((((x0 - ((zush x0 (1 : Int32)) &&& (1431655765 : Int32))) &&& (858993459 : Int32)) + ((zush (x0 - ((zush x0 (1 : Int32)) &&& (1431655765 : Int32))) (2 : Int32)) &&& (858993459 : Int32))) + (zush (((x0 - ((zush x0 (1 : Int32)) &&& (1431655765 : Int32))) &&& (858993459 : Int32)) + ((zush (x0 - ((zush x0 (1 : Int32)) &&& (1431655765 : Int32))) (2 : Int32)) &&& (858993459 : Int32))) (4 : Int32))) &&& (252645135 : Int32)))]) hX d_Ig_bitCount_33 rfl (by decide) rfl ?_
  refine z_iload_n (i := 0) hX d_Ig_bitCount_34 rfl rfl ?_
  refine z_iload_n (i := 0) hX d_Ig_bitCount_35 rfl rfl ?_
  refine z_bipush (v := 8) hX d_Ig_bitCount_36 (by decide) ?_
  refine z_iushr hX d_Ig_bitCount_38 ?_
  refine z_iadd hX d_Ig_bitCount_39 ?_
  refine z_istore_n (i := 0) (lv2 := [(0, .int ((((((x0 - ((zush x0 (1 : Int32)) &&& (1431655765 : Int32))) &&& (858993459 : Int32)) + ((zush (x0 - ((zush x0 (1 : Int32)) &&& (1431655765 : Int32))) (2 : Int32)) &&& (858993459 : Int32))) + (zush (((x0 - ((zush x0 (1 : Int32)) &&& (1431655765 : Int32))) &&& (858993459 : Int32)) + ((zush (x0 - ((zush x0 (1 : Int32)) &&& (1431655765 : Int32))) (2 : Int32)) &&& (858993459 : Int32))) (4 : Int32))) &&& (252645135 : Int32)) + (zush (((((x0 - ((zush x0 (1 : Int32)) &&& (1431655765 : Int32))) &&& (858993459 : Int32)) + ((zush (x0 - ((zush x0 (1 : Int32)) &&& (1431655765 : Int32))) (2 : Int32)) &&& (858993459 : Int32))) + (zush (((x0 - ((zush x0 (1 : Int32)) &&& (1431655765 : Int32))) &&& (858993459 : Int32)) + ((zush (x0 - ((zush x0 (1 : Int32)) &&& (1431655765 : Int32))) (2 : Int32)) &&& (858993459 : Int32))) (4 : Int32))) &&& (252645135 : Int32)) (8 : Int32))))]) hX d_Ig_bitCount_40 rfl (by decide) rfl ?_
  refine z_iload_n (i := 0) hX d_Ig_bitCount_41 rfl rfl ?_
  refine z_iload_n (i := 0) hX d_Ig_bitCount_42 rfl rfl ?_
  refine z_bipush (v := 16) hX d_Ig_bitCount_43 (by decide) ?_
  refine z_iushr hX d_Ig_bitCount_45 ?_
  refine z_iadd hX d_Ig_bitCount_46 ?_
  refine z_istore_n (i := 0) (lv2 := [(0, .int (((((((x0 - ((zush x0 (1 : Int32)) &&& (1431655765 : Int32))) &&& (858993459 : Int32)) + ((zush (x0 - ((zush x0 (1 : Int32)) &&& (1431655765 : Int32))) (2 : Int32)) &&& (858993459 : Int32))) + (zush (((x0 - ((zush x0 (1 : Int32)) &&& (1431655765 : Int32))) &&& (858993459 : Int32)) + ((zush (x0 - ((zush x0 (1 : Int32)) &&& (1431655765 : Int32))) (2 : Int32)) &&& (858993459 : Int32))) (4 : Int32))) &&& (252645135 : Int32)) + (zush (((((x0 - ((zush x0 (1 : Int32)) &&& (1431655765 : Int32))) &&& (858993459 : Int32)) + ((zush (x0 - ((zush x0 (1 : Int32)) &&& (1431655765 : Int32))) (2 : Int32)) &&& (858993459 : Int32))) + (zush (((x0 - ((zush x0 (1 : Int32)) &&& (1431655765 : Int32))) &&& (858993459 : Int32)) + ((zush (x0 - ((zush x0 (1 : Int32)) &&& (1431655765 : Int32))) (2 : Int32)) &&& (858993459 : Int32))) (4 : Int32))) &&& (252645135 : Int32)) (8 : Int32))) + (zush ((((((x0 - ((zush x0 (1 : Int32)) &&& (1431655765 : Int32))) &&& (858993459 : Int32)) + ((zush (x0 - ((zush x0 (1 : Int32)) &&& (1431655765 : Int32))) (2 : Int32)) &&& (858993459 : Int32))) + (zush (((x0 - ((zush x0 (1 : Int32)) &&& (1431655765 : Int32))) &&& (858993459 : Int32)) + ((zush (x0 - ((zush x0 (1 : Int32)) &&& (1431655765 : Int32))) (2 : Int32)) &&& (858993459 : Int32))) (4 : Int32))) &&& (252645135 : Int32)) + (zush (((((x0 - ((zush x0 (1 : Int32)) &&& (1431655765 : Int32))) &&& (858993459 : Int32)) + ((zush (x0 - ((zush x0 (1 : Int32)) &&& (1431655765 : Int32))) (2 : Int32)) &&& (858993459 : Int32))) + (zush (((x0 - ((zush x0 (1 : Int32)) &&& (1431655765 : Int32))) &&& (858993459 : Int32)) + ((zush (x0 - ((zush x0 (1 : Int32)) &&& (1431655765 : Int32))) (2 : Int32)) &&& (858993459 : Int32))) (4 : Int32))) &&& (252645135 : Int32)) (8 : Int32))) (16 : Int32))))]) hX d_Ig_bitCount_47 rfl (by decide) rfl ?_
  refine z_iload_n (i := 0) hX d_Ig_bitCount_48 rfl rfl ?_
  refine z_bipush (v := 63) hX d_Ig_bitCount_49 (by decide) ?_
  refine z_iand hX d_Ig_bitCount_51 ?_
  exact z_iret hR d_Ig_bitCount_52
def fn_P_usesReviewedBelow_17 : Nat → Int32 → Int32 → Int32 → Int32 → zS → Option (Int32 × zS)
  | 0, _, _, _, _, _ => none
  | n + 1, x1, x2, x3, x4, σ => zgd (zin x1 32) (if x4 < (σ.1 13 x1.toNatClampNeg) then zb (fn_A_usedAt x1 x4 σ) (fun r48 s48 => zgd (zin r48 24) (zb (fn_Ig_bitCount ((s48.1 4 r48.toNatClampNeg) &&& x3) s48) (fun r58 s58 => if r58 < x2 then some ((1 : Int32), s58) else fn_P_usesReviewedBelow_17 n x1 x2 x3 (x4 + 1) s58))) else some ((0 : Int32), σ))
set_option maxRecDepth 100000 in
set_option maxHeartbeats 4000000 in
theorem bk_P_usesReviewedBelow_17 (l : Launch) (D : va_G) (ad : Nat → Nat) (ca : Nat → ClassId) {V : zV Int32} {ex : va_W} (hX : zIs V l b_P_usesReviewedBelow R_P zTT (zKK D ca) D zcl (zty ca) 6 (zrm 2 44)) (hR : zRz V b_P_usesReviewedBelow (zwC ad ca) ex) : ∀ (n : Nat) (x1 : Int32) (x2 : Int32) (x3 : Int32) (x4 : Int32) (σ : zS), zJ V (fn_P_usesReviewedBelow_17 n x1 x2 x3 x4 σ) (zwC ad ca σ ++ ex) 17 [(0, .ref (ad 0)), (1, .int x1), (2, .int x2), (3, .int x3), (4, .int x4)] [] := by
  intro n
  induction n with
  | zero => intros; exact z_none
  | succ n ih =>
    intro x1 x2 x3 x4 σ
    show zJ V (zgd (zin x1 32) (if x4 < (σ.1 13 x1.toNatClampNeg) then zb (fn_A_usedAt x1 x4 σ) (fun r48 s48 => zgd (zin r48 24) (zb (fn_Ig_bitCount ((s48.1 4 r48.toNatClampNeg) &&& x3) s48) (fun r58 s58 => if r58 < x2 then some ((1 : Int32), s58) else fn_P_usesReviewedBelow_17 n x1 x2 x3 (x4 + 1) s58))) else some ((0 : Int32), σ))) _ _ _ _
    refine z_iload (i := 4) hX d_P_usesReviewedBelow_17 rfl ?_
    refine z_aload_n (i := 0) hX d_P_usesReviewedBelow_19 rfl rfl ?_
    refine z_get (C := R_P) (T := F_P) (N := 7) hX in_P 0 rfl rfl 1 (by decide) w_field_P_19_P_1 rfl d_P_usesReviewedBelow_20 ?_
    refine z_get (C := R_A) (T := F_A) (N := 11) hX in_A 6 rfl rfl 6 (by decide) w_field_P_69_A_6 rfl d_P_usesReviewedBelow_23 ?_
    refine z_get (C := R_W) (T := F_W) (N := 2) hX in_W 12 rfl rfl 0 (by decide) w_field_P_176_W_0 rfl d_P_usesReviewedBelow_26 ?_
    refine z_iload_n (i := 1) hX d_P_usesReviewedBelow_29 rfl rfl ?_
    refine z_iald hX 13 9 rfl rfl d_P_usesReviewedBelow_30 ?_
    refine z_icmp_ge (tgt := 73) hX d_P_usesReviewedBelow_31 (by decide) (fun c31 => ?_) (fun c31 => ?_)
    · refine z_aload_n (i := 0) hX d_P_usesReviewedBelow_34 rfl rfl ?_
      refine z_get (C := R_P) (T := F_P) (N := 7) hX in_P 0 rfl rfl 0 (by decide) w_field_P_10_P_0 rfl d_P_usesReviewedBelow_35 ?_
      refine z_get (C := R_S) (T := F_S) (N := 5) hX in_S 1 rfl rfl 3 (by decide) w_field_P_185_S_3 rfl d_P_usesReviewedBelow_38 ?_
      refine z_aload_n (i := 0) hX d_P_usesReviewedBelow_41 rfl rfl ?_
      refine z_get (C := R_P) (T := F_P) (N := 7) hX in_P 0 rfl rfl 1 (by decide) w_field_P_19_P_1 rfl d_P_usesReviewedBelow_42 ?_
      refine z_iload_n (i := 1) hX d_P_usesReviewedBelow_45 rfl rfl ?_
      refine z_iload (i := 4) hX d_P_usesReviewedBelow_46 rfl ?_
      refine z_callVi (wl := zwC ad ca) (C := R_A) (n := 2) (rest := [.ref (ad 4)]) hX [.int x1, .int x4] (ct_A_usedAt l D ad ca x1 x4 σ) gV_P_182 ⟨rfl, rfl⟩ ⟨by decide, by decide⟩ (by decide +kernel) rfl 6 rfl rfl rfl rfl (Nat.le_of_ble_eq_true rfl) d_P_usesReviewedBelow_48 (fun r48 s48 => ?_)
      refine z_iald hX 4 2 rfl rfl d_P_usesReviewedBelow_51 ?_
      refine z_istore (i := 5) (lv2 := [(5, .int (s48.1 4 r48.toNatClampNeg)), (0, .ref (ad 0)), (1, .int x1), (2, .int x2), (3, .int x3), (4, .int x4)]) hX d_P_usesReviewedBelow_52 (by decide) rfl ?_
      refine z_iload (i := 5) hX d_P_usesReviewedBelow_54 rfl ?_
      refine z_iload_n (i := 3) hX d_P_usesReviewedBelow_56 rfl rfl ?_
      refine z_iand hX d_P_usesReviewedBelow_57 ?_
      refine z_callSi (wl := zwC ad ca) (n := 1) (rest := []) hX [.int ((s48.1 4 r48.toNatClampNeg) &&& x3)] (ct_Ig_bitCount l D ca (zwC ad ca) ((s48.1 4 r48.toNatClampNeg) &&& x3) s48) gS_P_188 ⟨rfl, rfl⟩ ⟨by decide, by decide⟩ (by decide +kernel) rfl rfl (Nat.le_of_ble_eq_true rfl) d_P_usesReviewedBelow_58 (fun r58 s58 => ?_)
      refine z_iload_n (i := 2) hX d_P_usesReviewedBelow_61 rfl rfl ?_
      refine z_icmp_ge (tgt := 67) hX d_P_usesReviewedBelow_62 (by decide) (fun c62 => ?_) (fun c62 => ?_)
      · refine z_iconst (v := 1) hX d_P_usesReviewedBelow_65 (by decide) ?_
        exact z_zret hR rfl d_P_usesReviewedBelow_66
      · refine z_iinc (v := x4 + 1) (lv2 := [(4, .int (x4 + 1)), (5, .int (s48.1 4 r48.toNatClampNeg)), (0, .ref (ad 0)), (1, .int x1), (2, .int x2), (3, .int x3)]) hX d_P_usesReviewedBelow_67 5 rfl (by first | rfl | decide) (by decide) rfl ?_
        refine z_goto (tgt := 17) hX d_P_usesReviewedBelow_70 (by decide) ?_
        refine z_lv hX [2, 3, 4, 5, 0] (lv2 := [(0, .ref (ad 0)), (1, .int x1), (2, .int x2), (3, .int x3), (4, .int (x4 + 1))]) rfl ?_
        exact ih _ _ _ _ _
    · refine z_iconst (v := 0) hX d_P_usesReviewedBelow_73 (by decide) ?_
      exact z_zret hR rfl d_P_usesReviewedBelow_74
def fn_P_usesReviewedBelow (x1 : Int32) (x2 : Int32) (σ : zS) : Option (Int32 × zS) := zgd (zin x1 32) (fn_P_usesReviewedBelow_17 100 x1 x2 ((zshl (1 : Int32) (σ.1 10 x1.toNatClampNeg)) ^^^ (-1 : Int32)) (0 : Int32) σ)
set_option maxRecDepth 100000 in
set_option maxHeartbeats 4000000 in
theorem ct_P_usesReviewedBelow (l : Launch) (D : va_G) (ad : Nat → Nat) (ca : Nat → ClassId) (x1 : Int32) (x2 : Int32) (σ : zS) : zC zemI l y_P_usesReviewedBelow (Cond.code y_P_usesReviewedBelow b_P_usesReviewedBelow 6 (some .boolean) :: zTT) (zrm 2 44) D zcl (zKK D ca) (zwC ad ca) σ [.ref (ad 0), .int x1, .int x2] (fn_P_usesReviewedBelow x1 x2 σ) := by
  refine zmk_z (tys := zty ca) (by decide) (zKK_m D ca) (fun _ h => h.1) (Nat.le_of_ble_eq_true rfl) (fun V ex hX hR => ?_)
  show zJ V (zgd (zin x1 32) (fn_P_usesReviewedBelow_17 100 x1 x2 ((zshl (1 : Int32) (σ.1 10 x1.toNatClampNeg)) ^^^ (-1 : Int32)) (0 : Int32) σ)) (zwC ad ca σ ++ ex) 0 [(0, .ref (ad 0)), (1, .int x1), (2, .int x2)] []
  refine z_iconst (v := 1) hX d_P_usesReviewedBelow_0 (by decide) ?_
  refine z_aload_n (i := 0) hX d_P_usesReviewedBelow_1 rfl rfl ?_
  refine z_get (C := R_P) (T := F_P) (N := 7) hX in_P 0 rfl rfl 1 (by decide) w_field_P_19_P_1 rfl d_P_usesReviewedBelow_2 ?_
  refine z_get (C := R_A) (T := F_A) (N := 11) hX in_A 6 rfl rfl 4 (by decide) w_field_P_133_A_4 rfl d_P_usesReviewedBelow_5 ?_
  refine z_iload_n (i := 1) hX d_P_usesReviewedBelow_8 rfl rfl ?_
  refine z_iald hX 10 7 rfl rfl d_P_usesReviewedBelow_9 ?_
  refine z_ishl hX d_P_usesReviewedBelow_10 ?_
  refine z_iconst (v := -1) hX d_P_usesReviewedBelow_11 (by decide) ?_
  refine z_ixor hX d_P_usesReviewedBelow_12 ?_
  refine z_istore_n (i := 3) (lv2 := [(3, .int ((zshl (1 : Int32) (σ.1 10 x1.toNatClampNeg)) ^^^ (-1 : Int32))), (0, .ref (ad 0)), (1, .int x1), (2, .int x2)]) hX d_P_usesReviewedBelow_13 rfl (by decide) rfl ?_
  refine z_iconst (v := 0) hX d_P_usesReviewedBelow_14 (by decide) ?_
  refine z_istore (i := 4) (lv2 := [(4, .int (0 : Int32)), (3, .int ((zshl (1 : Int32) (σ.1 10 x1.toNatClampNeg)) ^^^ (-1 : Int32))), (0, .ref (ad 0)), (1, .int x1), (2, .int x2)]) hX d_P_usesReviewedBelow_15 (by decide) rfl ?_
  refine z_lv hX [2, 3, 4, 1, 0] (lv2 := [(0, .ref (ad 0)), (1, .int x1), (2, .int x2), (3, .int ((zshl (1 : Int32) (σ.1 10 x1.toNatClampNeg)) ^^^ (-1 : Int32))), (4, .int (0 : Int32))]) rfl ?_
  exact bk_P_usesReviewedBelow_17 l D ad ca hX hR 100 _ _ _ _ _
def fn_P_usesFetchedUntold_2 : Nat → Int32 → Int32 → zS → Option (Int32 × zS)
  | 0, _, _, _ => none
  | n + 1, x1, x2, σ => zgd (zin x1 32) (if x2 < (σ.1 13 x1.toNatClampNeg) then zb (fn_A_usedAt x1 x2 σ) (fun r31 s31 => zgd (zin r31 24) (if (s31.1 5 r31.toNatClampNeg) = 0 then fn_P_usesFetchedUntold_2 n x1 (x2 + 1) s31 else some ((1 : Int32), s31))) else some ((0 : Int32), σ))
set_option maxRecDepth 100000 in
set_option maxHeartbeats 4000000 in
theorem bk_P_usesFetchedUntold_2 (l : Launch) (D : va_G) (ad : Nat → Nat) (ca : Nat → ClassId) {V : zV Int32} {ex : va_W} (hX : zIs V l b_P_usesFetchedUntold R_P zTT (zKK D ca) D zcl (zty ca) 3 (zrm 2 44)) (hR : zRz V b_P_usesFetchedUntold (zwC ad ca) ex) : ∀ (n : Nat) (x1 : Int32) (x2 : Int32) (σ : zS), zJ V (fn_P_usesFetchedUntold_2 n x1 x2 σ) (zwC ad ca σ ++ ex) 2 [(0, .ref (ad 0)), (1, .int x1), (2, .int x2)] [] := by
  intro n
  induction n with
  | zero => intros; exact z_none
  | succ n ih =>
    intro x1 x2 σ
    show zJ V (zgd (zin x1 32) (if x2 < (σ.1 13 x1.toNatClampNeg) then zb (fn_A_usedAt x1 x2 σ) (fun r31 s31 => zgd (zin r31 24) (if (s31.1 5 r31.toNatClampNeg) = 0 then fn_P_usesFetchedUntold_2 n x1 (x2 + 1) s31 else some ((1 : Int32), s31))) else some ((0 : Int32), σ))) _ _ _ _
    refine z_iload_n (i := 2) hX d_P_usesFetchedUntold_2 rfl rfl ?_
    refine z_aload_n (i := 0) hX d_P_usesFetchedUntold_3 rfl rfl ?_
    refine z_get (C := R_P) (T := F_P) (N := 7) hX in_P 0 rfl rfl 1 (by decide) w_field_P_19_P_1 rfl d_P_usesFetchedUntold_4 ?_
    refine z_get (C := R_A) (T := F_A) (N := 11) hX in_A 6 rfl rfl 6 (by decide) w_field_P_69_A_6 rfl d_P_usesFetchedUntold_7 ?_
    refine z_get (C := R_W) (T := F_W) (N := 2) hX in_W 12 rfl rfl 0 (by decide) w_field_P_176_W_0 rfl d_P_usesFetchedUntold_10 ?_
    refine z_iload_n (i := 1) hX d_P_usesFetchedUntold_13 rfl rfl ?_
    refine z_iald hX 13 9 rfl rfl d_P_usesFetchedUntold_14 ?_
    refine z_icmp_ge (tgt := 46) hX d_P_usesFetchedUntold_15 (by decide) (fun c15 => ?_) (fun c15 => ?_)
    · refine z_aload_n (i := 0) hX d_P_usesFetchedUntold_18 rfl rfl ?_
      refine z_get (C := R_P) (T := F_P) (N := 7) hX in_P 0 rfl rfl 0 (by decide) w_field_P_10_P_0 rfl d_P_usesFetchedUntold_19 ?_
      refine z_get (C := R_S) (T := F_S) (N := 5) hX in_S 1 rfl rfl 4 (by decide) w_field_P_60_S_4 rfl d_P_usesFetchedUntold_22 ?_
      refine z_aload_n (i := 0) hX d_P_usesFetchedUntold_25 rfl rfl ?_
      refine z_get (C := R_P) (T := F_P) (N := 7) hX in_P 0 rfl rfl 1 (by decide) w_field_P_19_P_1 rfl d_P_usesFetchedUntold_26 ?_
      refine z_iload_n (i := 1) hX d_P_usesFetchedUntold_29 rfl rfl ?_
      refine z_iload_n (i := 2) hX d_P_usesFetchedUntold_30 rfl rfl ?_
      refine z_callVi (wl := zwC ad ca) (C := R_A) (n := 2) (rest := [.ref (ad 5)]) hX [.int x1, .int x2] (ct_A_usedAt l D ad ca x1 x2 σ) gV_P_182 ⟨rfl, rfl⟩ ⟨by decide, by decide⟩ (by decide +kernel) rfl 6 rfl rfl rfl rfl (Nat.le_of_ble_eq_true rfl) d_P_usesFetchedUntold_31 (fun r31 s31 => ?_)
      refine z_zald hX 5 3 rfl rfl d_P_usesFetchedUntold_34 ?_
      refine z_if_eq (tgt := 40) hX d_P_usesFetchedUntold_35 (by decide) (fun c35 => ?_) (fun c35 => ?_)
      · refine z_iinc (v := x2 + 1) (lv2 := [(2, .int (x2 + 1)), (0, .ref (ad 0)), (1, .int x1)]) hX d_P_usesFetchedUntold_40 2 rfl (by first | rfl | decide) (by decide) rfl ?_
        refine z_goto (tgt := 2) hX d_P_usesFetchedUntold_43 (by decide) ?_
        refine z_lv hX [1, 2, 0] (lv2 := [(0, .ref (ad 0)), (1, .int x1), (2, .int (x2 + 1))]) rfl ?_
        exact ih _ _ _
      · refine z_iconst (v := 1) hX d_P_usesFetchedUntold_38 (by decide) ?_
        exact z_zret hR rfl d_P_usesFetchedUntold_39
    · refine z_iconst (v := 0) hX d_P_usesFetchedUntold_46 (by decide) ?_
      exact z_zret hR rfl d_P_usesFetchedUntold_47
def fn_P_usesFetchedUntold (x1 : Int32) (σ : zS) : Option (Int32 × zS) := fn_P_usesFetchedUntold_2 100 x1 (0 : Int32) σ
set_option maxRecDepth 100000 in
set_option maxHeartbeats 4000000 in
theorem ct_P_usesFetchedUntold (l : Launch) (D : va_G) (ad : Nat → Nat) (ca : Nat → ClassId) (x1 : Int32) (σ : zS) : zC zemI l y_P_usesFetchedUntold (Cond.code y_P_usesFetchedUntold b_P_usesFetchedUntold 3 (some .boolean) :: zTT) (zrm 2 44) D zcl (zKK D ca) (zwC ad ca) σ [.ref (ad 0), .int x1] (fn_P_usesFetchedUntold x1 σ) := by
  refine zmk_z (tys := zty ca) (by decide) (zKK_m D ca) (fun _ h => h.1) (Nat.le_of_ble_eq_true rfl) (fun V ex hX hR => ?_)
  show zJ V (fn_P_usesFetchedUntold_2 100 x1 (0 : Int32) σ) (zwC ad ca σ ++ ex) 0 [(0, .ref (ad 0)), (1, .int x1)] []
  refine z_iconst (v := 0) hX d_P_usesFetchedUntold_0 (by decide) ?_
  refine z_istore_n (i := 2) (lv2 := [(2, .int (0 : Int32)), (0, .ref (ad 0)), (1, .int x1)]) hX d_P_usesFetchedUntold_1 rfl (by decide) rfl ?_
  refine z_lv hX [1, 2, 0] (lv2 := [(0, .ref (ad 0)), (1, .int x1), (2, .int (0 : Int32))]) rfl ?_
  exact bk_P_usesFetchedUntold_2 l D ad ca hX hR 100 _ _ _
def fn_A_missingPlace_5 : Nat → Int32 → Int32 → Int32 → Int32 → zS → Option (Int32 × zS)
  | 0, _, _, _, _, _ => none
  | n + 1, x1, x2, x3, x4, σ => zgd (zin x1 32) (if x4 < (σ.1 16 x1.toNatClampNeg) then zb (fn_A_metByAt x1 x4 σ) (fun r23 s23 => if r23 = (-1 : Int32) then if x3 = x2 then some (x4, s23) else fn_A_missingPlace_5 n x1 x2 (x3 + 1) (x4 + 1) s23 else fn_A_missingPlace_5 n x1 x2 x3 (x4 + 1) s23) else some ((-1 : Int32), σ))
set_option maxRecDepth 100000 in
set_option maxHeartbeats 4000000 in
theorem bk_A_missingPlace_5 (l : Launch) (D : va_G) (ad : Nat → Nat) (ca : Nat → ClassId) {V : zV Int32} {ex : va_W} (hX : zIs V l b_A_missingPlace R_A zTT (zKK D ca) D zcl (zty ca) 5 (zrm 1 22)) (hR : zRi V b_A_missingPlace (zwC ad ca) ex) : ∀ (n : Nat) (x1 : Int32) (x2 : Int32) (x3 : Int32) (x4 : Int32) (σ : zS), zJ V (fn_A_missingPlace_5 n x1 x2 x3 x4 σ) (zwC ad ca σ ++ ex) 5 [(0, .ref (ad 6)), (1, .int x1), (2, .int x2), (3, .int x3), (4, .int x4)] [] := by
  intro n
  induction n with
  | zero => intros; exact z_none
  | succ n ih =>
    intro x1 x2 x3 x4 σ
    show zJ V (zgd (zin x1 32) (if x4 < (σ.1 16 x1.toNatClampNeg) then zb (fn_A_metByAt x1 x4 σ) (fun r23 s23 => if r23 = (-1 : Int32) then if x3 = x2 then some (x4, s23) else fn_A_missingPlace_5 n x1 x2 (x3 + 1) (x4 + 1) s23 else fn_A_missingPlace_5 n x1 x2 x3 (x4 + 1) s23) else some ((-1 : Int32), σ))) _ _ _ _
    refine z_iload (i := 4) hX d_A_missingPlace_5 rfl ?_
    refine z_aload_n (i := 0) hX d_A_missingPlace_7 rfl rfl ?_
    refine z_get (C := R_A) (T := F_A) (N := 11) hX in_A 6 rfl rfl 7 (by decide) w_field_A_35_A_7 rfl d_A_missingPlace_8 ?_
    refine z_get (C := R_W) (T := F_W) (N := 2) hX in_W 15 rfl rfl 0 (by decide) w_field_A_55_W_0 rfl d_A_missingPlace_11 ?_
    refine z_iload_n (i := 1) hX d_A_missingPlace_14 rfl rfl ?_
    refine z_iald hX 16 11 rfl rfl d_A_missingPlace_15 ?_
    refine z_icmp_ge (tgt := 47) hX d_A_missingPlace_16 (by decide) (fun c16 => ?_) (fun c16 => ?_)
    · refine z_aload_n (i := 0) hX d_A_missingPlace_19 rfl rfl ?_
      refine z_iload_n (i := 1) hX d_A_missingPlace_20 rfl rfl ?_
      refine z_iload (i := 4) hX d_A_missingPlace_21 rfl ?_
      refine z_callVi (wl := zwC ad ca) (C := R_A) (n := 2) (rest := []) hX [.int x1, .int x4] (ct_A_metByAt l D ad ca x1 x4 σ) gV_A_62 ⟨rfl, rfl⟩ ⟨by decide, by decide⟩ (by decide +kernel) rfl 6 rfl rfl rfl rfl (Nat.le_of_ble_eq_true rfl) d_A_missingPlace_23 (fun r23 s23 => ?_)
      refine z_iconst (v := -1) hX d_A_missingPlace_26 (by decide) ?_
      refine z_icmp_ne (tgt := 41) hX d_A_missingPlace_27 (by decide) (fun c27 => ?_) (fun c27 => ?_)
      · refine z_iload_n (i := 3) hX d_A_missingPlace_30 rfl rfl ?_
        refine z_iload_n (i := 2) hX d_A_missingPlace_31 rfl rfl ?_
        refine z_icmp_ne (tgt := 38) hX d_A_missingPlace_32 (by decide) (fun c32 => ?_) (fun c32 => ?_)
        · refine z_iload (i := 4) hX d_A_missingPlace_35 rfl ?_
          exact z_iret hR d_A_missingPlace_37
        · refine z_iinc (v := x3 + 1) (lv2 := [(3, .int (x3 + 1)), (0, .ref (ad 6)), (1, .int x1), (2, .int x2), (4, .int x4)]) hX d_A_missingPlace_38 3 rfl (by first | rfl | decide) (by decide) rfl ?_
          refine z_iinc (v := x4 + 1) (lv2 := [(4, .int (x4 + 1)), (3, .int (x3 + 1)), (0, .ref (ad 6)), (1, .int x1), (2, .int x2)]) hX d_A_missingPlace_41 4 rfl (by first | rfl | decide) (by decide) rfl ?_
          refine z_goto (tgt := 5) hX d_A_missingPlace_44 (by decide) ?_
          refine z_lv hX [2, 3, 4, 1, 0] (lv2 := [(0, .ref (ad 6)), (1, .int x1), (2, .int x2), (3, .int (x3 + 1)), (4, .int (x4 + 1))]) rfl ?_
          exact ih _ _ _ _ _
      · refine z_iinc (v := x4 + 1) (lv2 := [(4, .int (x4 + 1)), (0, .ref (ad 6)), (1, .int x1), (2, .int x2), (3, .int x3)]) hX d_A_missingPlace_41 4 rfl (by first | rfl | decide) (by decide) rfl ?_
        refine z_goto (tgt := 5) hX d_A_missingPlace_44 (by decide) ?_
        refine z_lv hX [1, 2, 3, 4, 0] (lv2 := [(0, .ref (ad 6)), (1, .int x1), (2, .int x2), (3, .int x3), (4, .int (x4 + 1))]) rfl ?_
        exact ih _ _ _ _ _
    · refine z_iconst (v := -1) hX d_A_missingPlace_47 (by decide) ?_
      exact z_iret hR d_A_missingPlace_48
def fn_A_missingPlace (x1 : Int32) (x2 : Int32) (σ : zS) : Option (Int32 × zS) := fn_A_missingPlace_5 100 x1 x2 (0 : Int32) (0 : Int32) σ
set_option maxRecDepth 100000 in
set_option maxHeartbeats 4000000 in
theorem ct_A_missingPlace (l : Launch) (D : va_G) (ad : Nat → Nat) (ca : Nat → ClassId) (x1 : Int32) (x2 : Int32) (σ : zS) : zC zemI l y_A_missingPlace (Cond.code y_A_missingPlace b_A_missingPlace 5 (some .int) :: zTT) (zrm 1 22) D zcl (zKK D ca) (zwC ad ca) σ [.ref (ad 6), .int x1, .int x2] (fn_A_missingPlace x1 x2 σ) := by
  refine zmk_i (tys := zty ca) (by decide) (zKK_m D ca) (fun _ h => h.1) (Nat.le_of_ble_eq_true rfl) (fun V ex hX hR => ?_)
  show zJ V (fn_A_missingPlace_5 100 x1 x2 (0 : Int32) (0 : Int32) σ) (zwC ad ca σ ++ ex) 0 [(0, .ref (ad 6)), (1, .int x1), (2, .int x2)] []
  refine z_iconst (v := 0) hX d_A_missingPlace_0 (by decide) ?_
  refine z_istore_n (i := 3) (lv2 := [(3, .int (0 : Int32)), (0, .ref (ad 6)), (1, .int x1), (2, .int x2)]) hX d_A_missingPlace_1 rfl (by decide) rfl ?_
  refine z_iconst (v := 0) hX d_A_missingPlace_2 (by decide) ?_
  refine z_istore (i := 4) (lv2 := [(4, .int (0 : Int32)), (3, .int (0 : Int32)), (0, .ref (ad 6)), (1, .int x1), (2, .int x2)]) hX d_A_missingPlace_3 (by decide) rfl ?_
  refine z_lv hX [2, 3, 4, 1, 0] (lv2 := [(0, .ref (ad 6)), (1, .int x1), (2, .int x2), (3, .int (0 : Int32)), (4, .int (0 : Int32))]) rfl ?_
  exact bk_A_missingPlace_5 l D ad ca hX hR 100 _ _ _ _ _
