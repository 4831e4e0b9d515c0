def fn_M_within (x0 : Int32) (x1 : Int32) (x2 : Int32) (σ : zS) : Option (Int32 × zS) := if x0 < x1 then some ((0 : Int32), σ) else if x2 < x0 then some ((0 : Int32), σ) else some ((1 : Int32), σ)
set_option maxRecDepth 100000 in
set_option maxHeartbeats 4000000 in
theorem ct_M_within (l : Launch) (D : va_G) (ca : Nat → ClassId) (wl : zS → va_W) (x0 : Int32) (x1 : Int32) (x2 : Int32) (σ : zS) : zC zemI l y_M_within (Cond.code y_M_within b_M_within 3 (some .boolean) :: zTT) (zrm 0 0) D zcl (zKK D ca) wl σ [.int x0, .int x1, .int x2] (fn_M_within x0 x1 x2 σ) := by
  refine zmk_z (tys := zty ca) (by decide) (zKK_m D ca) (fun _ h => h.1) (Nat.le_of_ble_eq_true rfl) (fun V ex hX hR => ?_)
  show zJ V (if x0 < x1 then some ((0 : Int32), σ) else if x2 < x0 then some ((0 : Int32), σ) else some ((1 : Int32), σ)) (wl σ ++ ex) 0 [(0, .int x0), (1, .int x1), (2, .int x2)] []
  refine z_iload_n (i := 0) hX d_M_within_0 rfl rfl ?_
  refine z_iload_n (i := 1) hX d_M_within_1 rfl rfl ?_
  refine z_icmp_lt (tgt := 14) hX d_M_within_2 (by decide) (fun c2 => ?_) (fun c2 => ?_)
  · refine z_iconst (v := 0) hX d_M_within_14 (by decide) ?_
    exact z_zret hR rfl d_M_within_15
  · refine z_iload_n (i := 0) hX d_M_within_5 rfl rfl ?_
    refine z_iload_n (i := 2) hX d_M_within_6 rfl rfl ?_
    refine z_icmp_gt (tgt := 14) hX d_M_within_7 (by decide) (fun c7 => ?_) (fun c7 => ?_)
    · refine z_iconst (v := 0) hX d_M_within_14 (by decide) ?_
      exact z_zret hR rfl d_M_within_15
    · refine z_iconst (v := 1) hX d_M_within_10 (by decide) ?_
      refine z_goto (tgt := 15) hX d_M_within_11 (by decide) ?_
      exact z_zret hR rfl d_M_within_15
def fn_M_source (x1 : Int64) (x3 : Int32) (x4 : Int32) (σ : zS) : Option (Int32 × zS) := if (σ.1 700 0) = (24 : Int32) then some ((-1 : Int32), σ) else zb (fn_M_within x3 (0 : Int32) (7 : Int32) σ) (fun r13 s13 => if r13 = 0 then some ((-1 : Int32), s13) else zgd (zin (s13.1 700 0) 24) (zst (zL s13 31 (s13.1 700 0).toNatClampNeg x1) (fun s30 => zgd (zin (s30.1 700 0) 24) (zst (zI s30 32 (s30.1 700 0).toNatClampNeg x3) (fun s40 => zgd (zin (s40.1 700 0) 24) (zst (zI s40 33 (s40.1 700 0).toNatClampNeg (x4 &&& (65535 : Int32))) (fun s54 => zst (zF s54 700 ((s54.1 700 0) + (1 : Int32))) (fun s62 => some ((s62.1 700 0) - (1 : Int32), s62)))))))))
set_option maxRecDepth 100000 in
set_option maxHeartbeats 4000000 in
theorem ct_M_source (l : Launch) (D : va_G) (ad : Nat → Nat) (ca : Nat → ClassId) (x1 : Int64) (x3 : Int32) (x4 : Int32) (σ : zS) : zC zemI l y_M_source (Cond.code y_M_source b_M_source 5 (some .int) :: zTT) (zrm 1 22) D zcl (zKK D ca) (zwM ad ca) σ [.ref (ad 30), .long x1, .int x3, .int x4] (fn_M_source x1 x3 x4 σ) := by
  refine zmk_i (tys := zty ca) (by decide) (zKK_m D ca) (fun _ h => h.1) (Nat.le_of_ble_eq_true rfl) (fun V ex hX hR => ?_)
  show zJ V (if (σ.1 700 0) = (24 : Int32) then some ((-1 : Int32), σ) else zb (fn_M_within x3 (0 : Int32) (7 : Int32) σ) (fun r13 s13 => if r13 = 0 then some ((-1 : Int32), s13) else zgd (zin (s13.1 700 0) 24) (zst (zL s13 31 (s13.1 700 0).toNatClampNeg x1) (fun s30 => zgd (zin (s30.1 700 0) 24) (zst (zI s30 32 (s30.1 700 0).toNatClampNeg x3) (fun s40 => zgd (zin (s40.1 700 0) 24) (zst (zI s40 33 (s40.1 700 0).toNatClampNeg (x4 &&& (65535 : Int32))) (fun s54 => zst (zF s54 700 ((s54.1 700 0) + (1 : Int32))) (fun s62 => some ((s62.1 700 0) - (1 : Int32), s62)))))))))) (zwM ad ca σ ++ ex) 0 [(0, .ref (ad 30)), (1, .long x1), (3, .int x3), (4, .int x4)] []
  refine z_aload_n (i := 0) hX d_M_source_0 rfl rfl ?_
  refine z_get (C := R_M) (T := F_M) (N := 27) hX in_M 0 rfl rfl 0 (by decide) w_field_M_79_M_0 rfl d_M_source_1 ?_
  refine z_bipush (v := 24) hX d_M_source_4 (by decide) ?_
  refine z_icmp_eq (tgt := 19) hX d_M_source_6 (by decide) (fun c6 => ?_) (fun c6 => ?_)
  · refine z_iconst (v := -1) hX d_M_source_19 (by decide) ?_
    exact z_iret hR d_M_source_20
  · refine z_iload_n (i := 3) hX d_M_source_9 rfl rfl ?_
    refine z_iconst (v := 0) hX d_M_source_10 (by decide) ?_
    refine z_bipush (v := 7) hX d_M_source_11 (by decide) ?_
    refine z_callSi (wl := zwM ad ca) (n := 3) (rest := []) hX [.int x3, .int (0 : Int32), .int (7 : Int32)] (ct_M_within l D ca (zwM ad ca) x3 (0 : Int32) (7 : Int32) σ) gS_M_82 ⟨rfl, rfl⟩ ⟨by decide, by decide⟩ (by decide +kernel) rfl rfl (Nat.le_of_ble_eq_true rfl) d_M_source_13 (fun r13 s13 => ?_)
    refine z_if_ne (tgt := 21) hX d_M_source_16 (by decide) (fun c16 => ?_) (fun c16 => ?_)
    · refine z_iconst (v := -1) hX d_M_source_19 (by decide) ?_
      exact z_iret hR d_M_source_20
    · refine z_aload_n (i := 0) hX d_M_source_21 rfl rfl ?_
      refine z_get (C := R_M) (T := F_M) (N := 27) hX in_M 0 rfl rfl 3 (by decide) w_field_M_7_M_3 rfl d_M_source_22 ?_
      refine z_aload_n (i := 0) hX d_M_source_25 rfl rfl ?_
      refine z_get (C := R_M) (T := F_M) (N := 27) hX in_M 0 rfl rfl 0 (by decide) w_field_M_79_M_0 rfl d_M_source_26 ?_
      refine z_lload_n (i := 1) hX d_M_source_29 rfl rfl ?_
      refine z_last (wl := zwM ad ca) (ex := ex) (x9 := (zL s13 31 (s13.1 700 0).toNatClampNeg x1)) hX 1 21 rfl rfl rfl d_M_source_30 (fun s30 => ?_)
      refine z_aload_n (i := 0) hX d_M_source_31 rfl rfl ?_
      refine z_get (C := R_M) (T := F_M) (N := 27) hX in_M 0 rfl rfl 4 (by decide) w_field_M_13_M_4 rfl d_M_source_32 ?_
      refine z_aload_n (i := 0) hX d_M_source_35 rfl rfl ?_
      refine z_get (C := R_M) (T := F_M) (N := 27) hX in_M 0 rfl rfl 0 (by decide) w_field_M_79_M_0 rfl d_M_source_36 ?_
      refine z_iload_n (i := 3) hX d_M_source_39 rfl rfl ?_
      refine z_iast (wl := zwM ad ca) (ex := ex) (x9 := (zI s30 32 (s30.1 700 0).toNatClampNeg x3)) hX 2 22 rfl rfl rfl d_M_source_40 (fun s40 => ?_)
      refine z_aload_n (i := 0) hX d_M_source_41 rfl rfl ?_
      refine z_get (C := R_M) (T := F_M) (N := 27) hX in_M 0 rfl rfl 5 (by decide) w_field_M_17_M_5 rfl d_M_source_42 ?_
      refine z_aload_n (i := 0) hX d_M_source_45 rfl rfl ?_
      refine z_get (C := R_M) (T := F_M) (N := 27) hX in_M 0 rfl rfl 0 (by decide) w_field_M_79_M_0 rfl d_M_source_46 ?_
      refine z_iload (i := 4) hX d_M_source_49 rfl ?_
      refine z_ldc (v := 65535) hX w_const_M_86_65535 d_M_source_51 ?_
      refine z_iand hX d_M_source_53 ?_
      refine z_iast (wl := zwM ad ca) (ex := ex) (x9 := (zI s40 33 (s40.1 700 0).toNatClampNeg (x4 &&& (65535 : Int32)))) hX 3 23 rfl rfl rfl d_M_source_54 (fun s54 => ?_)
      refine z_aload_n (i := 0) hX d_M_source_55 rfl rfl ?_
      refine z_dup hX d_M_source_56 rfl ?_
      refine z_get (C := R_M) (T := F_M) (N := 27) hX in_M 0 rfl rfl 0 (by decide) w_field_M_79_M_0 rfl d_M_source_57 ?_
      refine z_iconst (v := 1) hX d_M_source_60 (by decide) ?_
      refine z_iadd hX d_M_source_61 ?_
      refine z_put (C := R_M) (T := F_M) (N := 27) (wl := zwM ad ca) (ex := ex) (x9 := (zF s54 700 ((s54.1 700 0) + (1 : Int32)))) hX in_M t_M t_M_ok n_M 0 rfl rfl 0 (by decide) w_field_M_79_M_0 rfl rfl rfl (Nat.le_of_ble_eq_true rfl) rfl d_M_source_62 (fun s62 => ?_)
      refine z_aload_n (i := 0) hX d_M_source_65 rfl rfl ?_
      refine z_get (C := R_M) (T := F_M) (N := 27) hX in_M 0 rfl rfl 0 (by decide) w_field_M_79_M_0 rfl d_M_source_66 ?_
      refine z_iconst (v := 1) hX d_M_source_69 (by decide) ?_
      refine z_isub hX d_M_source_70 ?_
      exact z_iret hR d_M_source_71
def fn_M_isSource (x1 : Int32) (σ : zS) : Option (Int32 × zS) := if x1 < 0 then some ((0 : Int32), σ) else if x1 < (σ.1 700 0) then some ((1 : Int32), σ) else some ((0 : Int32), σ)
set_option maxRecDepth 100000 in
set_option maxHeartbeats 4000000 in
theorem ct_M_isSource (l : Launch) (D : va_G) (ad : Nat → Nat) (ca : Nat → ClassId) (x1 : Int32) (σ : zS) : zC zemI l y_M_isSource (Cond.code y_M_isSource b_M_isSource 2 (some .boolean) :: zTT) (zrm 0 0) D zcl (zKK D ca) (zwM ad ca) σ [.ref (ad 30), .int x1] (fn_M_isSource x1 σ) := by
  refine zmk_z (tys := zty ca) (by decide) (zKK_m D ca) (fun _ h => h.1) (Nat.le_of_ble_eq_true rfl) (fun V ex hX hR => ?_)
  show zJ V (if x1 < 0 then some ((0 : Int32), σ) else if x1 < (σ.1 700 0) then some ((1 : Int32), σ) else some ((0 : Int32), σ)) (zwM ad ca σ ++ ex) 0 [(0, .ref (ad 30)), (1, .int x1)] []
  refine z_iload_n (i := 1) hX d_M_isSource_0 rfl rfl ?_
  refine z_if_lt (tgt := 16) hX d_M_isSource_1 (by decide) (fun c1 => ?_) (fun c1 => ?_)
  · refine z_iconst (v := 0) hX d_M_isSource_16 (by decide) ?_
    exact z_zret hR rfl d_M_isSource_17
  · refine z_iload_n (i := 1) hX d_M_isSource_4 rfl rfl ?_
    refine z_aload_n (i := 0) hX d_M_isSource_5 rfl rfl ?_
    refine z_get (C := R_M) (T := F_M) (N := 27) hX in_M 0 rfl rfl 0 (by decide) w_field_M_79_M_0 rfl d_M_isSource_6 ?_
    refine z_icmp_ge (tgt := 16) hX d_M_isSource_9 (by decide) (fun c9 => ?_) (fun c9 => ?_)
    · refine z_iconst (v := 1) hX d_M_isSource_12 (by decide) ?_
      refine z_goto (tgt := 17) hX d_M_isSource_13 (by decide) ?_
      exact z_zret hR rfl d_M_isSource_17
    · refine z_iconst (v := 0) hX d_M_isSource_16 (by decide) ?_
      exact z_zret hR rfl d_M_isSource_17
def fn_M_fetched (x1 : Int32) (x2 : Int32) (σ : zS) : Option (Int32 × zS) := zb (fn_M_isSource x1 σ) (fun r2 s2 => if r2 = 0 then some ((0 : Int32), s2) else if x2 = 0 then zgd (zin x1 24) (zst (zI s2 34 x1.toNatClampNeg (vp_nar .boolean (1 : Int32))) (fun s24 => some ((1 : Int32), s24))) else zgd (zin x1 24) (zst (zI s2 34 x1.toNatClampNeg (vp_nar .boolean (0 : Int32))) (fun s24 => some ((1 : Int32), s24))))
set_option maxRecDepth 100000 in
set_option maxHeartbeats 4000000 in
theorem ct_M_fetched (l : Launch) (D : va_G) (ad : Nat → Nat) (ca : Nat → ClassId) (x1 : Int32) (x2 : Int32) (σ : zS) : zC zemI l y_M_fetched (Cond.code y_M_fetched b_M_fetched 3 (some .boolean) :: zTT) (zrm 1 21) D zcl (zKK D ca) (zwM ad ca) σ [.ref (ad 30), .int x1, .int x2] (fn_M_fetched x1 x2 σ) := by
  refine zmk_z (tys := zty ca) (by decide) (zKK_m D ca) (fun _ h => h.1) (Nat.le_of_ble_eq_true rfl) (fun V ex hX hR => ?_)
  show zJ V (zb (fn_M_isSource x1 σ) (fun r2 s2 => if r2 = 0 then some ((0 : Int32), s2) else if x2 = 0 then zgd (zin x1 24) (zst (zI s2 34 x1.toNatClampNeg (vp_nar .boolean (1 : Int32))) (fun s24 => some ((1 : Int32), s24))) else zgd (zin x1 24) (zst (zI s2 34 x1.toNatClampNeg (vp_nar .boolean (0 : Int32))) (fun s24 => some ((1 : Int32), s24))))) (zwM ad ca σ ++ ex) 0 [(0, .ref (ad 30)), (1, .int x1), (2, .int x2)] []
  refine z_aload_n (i := 0) hX d_M_fetched_0 rfl rfl ?_
  refine z_iload_n (i := 1) hX d_M_fetched_1 rfl rfl ?_
  refine z_callVi (wl := zwM ad ca) (C := R_M) (n := 1) (rest := []) hX [.int x1] (ct_M_isSource l D ad ca x1 σ) gV_M_87 ⟨rfl, rfl⟩ ⟨by decide, by decide⟩ (by decide +kernel) rfl 0 rfl rfl rfl rfl (Nat.le_of_ble_eq_true rfl) d_M_fetched_2 (fun r2 s2 => ?_)
  refine z_if_ne (tgt := 10) hX d_M_fetched_5 (by decide) (fun c5 => ?_) (fun c5 => ?_)
  · refine z_iconst (v := 0) hX d_M_fetched_8 (by decide) ?_
    exact z_zret hR rfl d_M_fetched_9
  · refine z_aload_n (i := 0) hX d_M_fetched_10 rfl rfl ?_
    refine z_get (C := R_M) (T := F_M) (N := 27) hX in_M 0 rfl rfl 6 (by decide) w_field_M_20_M_6 rfl d_M_fetched_11 ?_
    refine z_iload_n (i := 1) hX d_M_fetched_14 rfl rfl ?_
    refine z_iload_n (i := 2) hX d_M_fetched_15 rfl rfl ?_
    refine z_if_ne (tgt := 23) hX d_M_fetched_16 (by decide) (fun c16 => ?_) (fun c16 => ?_)
    · refine z_iconst (v := 1) hX d_M_fetched_19 (by decide) ?_
      refine z_goto (tgt := 24) hX d_M_fetched_20 (by decide) ?_
      refine z_zast (wl := zwM ad ca) (ex := ex) (x9 := (zI s2 34 x1.toNatClampNeg (vp_nar .boolean (1 : Int32)))) hX 4 24 rfl rfl rfl d_M_fetched_24 (fun s24 => ?_)
      refine z_iconst (v := 1) hX d_M_fetched_25 (by decide) ?_
      exact z_zret hR rfl d_M_fetched_26
    · refine z_iconst (v := 0) hX d_M_fetched_23 (by decide) ?_
      refine z_zast (wl := zwM ad ca) (ex := ex) (x9 := (zI s2 34 x1.toNatClampNeg (vp_nar .boolean (0 : Int32)))) hX 4 24 rfl rfl rfl d_M_fetched_24 (fun s24 => ?_)
      refine z_iconst (v := 1) hX d_M_fetched_25 (by decide) ?_
      exact z_zret hR rfl d_M_fetched_26
def fn_M_artefact_48 (x1 : Int64) (x3 : Int32) (x4 : Int32) (x5 : Int32) (x6 : Int32) (y0 : Int32) (σ : zS) : Option (Int32 × zS) := if (σ.1 701 0) = (32 : Int32) then some ((-1 : Int32), σ) else if y0 = 0 then some ((-1 : Int32), σ) else zgd (zin (σ.1 701 0) 32) (zst (zL σ 35 (σ.1 701 0).toNatClampNeg x1) (fun s75 => zgd (zin (s75.1 701 0) 32) (zst (zI s75 38 (s75.1 701 0).toNatClampNeg x3) (fun s85 => zgd (zin (s85.1 701 0) 32) (zst (zI s85 39 (s85.1 701 0).toNatClampNeg x4) (fun s96 => zgd (zin (s96.1 701 0) 32) (zst (zI s96 40 (s96.1 701 0).toNatClampNeg x5) (fun s107 => zgd (zin (s107.1 701 0) 32) (zst (zI s107 41 (s107.1 701 0).toNatClampNeg x6) (fun s118 => zst (zF s118 701 ((s118.1 701 0) + (1 : Int32))) (fun s126 => some ((s126.1 701 0) - (1 : Int32), s126))))))))))))
set_option maxRecDepth 100000 in
set_option maxHeartbeats 4000000 in
theorem bk_M_artefact_48 (l : Launch) (D : va_G) (ad : Nat → Nat) (ca : Nat → ClassId) {V : zV Int32} {ex : va_W} (hX : zIs V l b_M_artefact R_M zTT (zKK D ca) D zcl (zty ca) 8 (zrm 1 22)) (hR : zRi V b_M_artefact (zwM ad ca) ex) : ∀ (x1 : Int64) (x3 : Int32) (x4 : Int32) (x5 : Int32) (x6 : Int32) (y0 : Int32) (σ : zS), zJ V (fn_M_artefact_48 x1 x3 x4 x5 x6 y0 σ) (zwM ad ca σ ++ ex) 48 [(0, .ref (ad 30)), (1, .long x1), (3, .int x3), (4, .int x4), (5, .int x5), (6, .int x6)] [.int y0] := by
  intro x1 x3 x4 x5 x6 y0 σ
  show zJ V (if (σ.1 701 0) = (32 : Int32) then some ((-1 : Int32), σ) else if y0 = 0 then some ((-1 : Int32), σ) else zgd (zin (σ.1 701 0) 32) (zst (zL σ 35 (σ.1 701 0).toNatClampNeg x1) (fun s75 => zgd (zin (s75.1 701 0) 32) (zst (zI s75 38 (s75.1 701 0).toNatClampNeg x3) (fun s85 => zgd (zin (s85.1 701 0) 32) (zst (zI s85 39 (s85.1 701 0).toNatClampNeg x4) (fun s96 => zgd (zin (s96.1 701 0) 32) (zst (zI s96 40 (s96.1 701 0).toNatClampNeg x5) (fun s107 => zgd (zin (s107.1 701 0) 32) (zst (zI s107 41 (s107.1 701 0).toNatClampNeg x6) (fun s118 => zst (zF s118 701 ((s118.1 701 0) + (1 : Int32))) (fun s126 => some ((s126.1 701 0) - (1 : Int32), s126))))))))))))) _ _ _ _
  refine z_istore (i := 7) (lv2 := [(7, .int y0), (0, .ref (ad 30)), (1, .long x1), (3, .int x3), (4, .int x4), (5, .int x5), (6, .int x6)]) hX d_M_artefact_48 (by decide) rfl ?_
  refine z_aload_n (i := 0) hX d_M_artefact_50 rfl rfl ?_
  refine z_get (C := R_M) (T := F_M) (N := 27) hX in_M 0 rfl rfl 1 (by decide) w_field_M_76_M_1 rfl d_M_artefact_51 ?_
  refine z_bipush (v := 32) hX d_M_artefact_54 (by decide) ?_
  refine z_icmp_eq (tgt := 64) hX d_M_artefact_56 (by decide) (fun c56 => ?_) (fun c56 => ?_)
  · refine z_iconst (v := -1) hX d_M_artefact_64 (by decide) ?_
    exact z_iret hR d_M_artefact_65
  · refine z_iload (i := 7) hX d_M_artefact_59 rfl ?_
    refine z_if_ne (tgt := 66) hX d_M_artefact_61 (by decide) (fun c61 => ?_) (fun c61 => ?_)
    · refine z_iconst (v := -1) hX d_M_artefact_64 (by decide) ?_
      exact z_iret hR d_M_artefact_65
    · refine z_aload_n (i := 0) hX d_M_artefact_66 rfl rfl ?_
      refine z_get (C := R_M) (T := F_M) (N := 27) hX in_M 0 rfl rfl 7 (by decide) w_field_M_24_M_7 rfl d_M_artefact_67 ?_
      refine z_aload_n (i := 0) hX d_M_artefact_70 rfl rfl ?_
      refine z_get (C := R_M) (T := F_M) (N := 27) hX in_M 0 rfl rfl 1 (by decide) w_field_M_76_M_1 rfl d_M_artefact_71 ?_
      refine z_lload_n (i := 1) hX d_M_artefact_74 rfl rfl ?_
      refine z_last (wl := zwM ad ca) (ex := ex) (x9 := (zL σ 35 (σ.1 701 0).toNatClampNeg x1)) hX 5 25 rfl rfl rfl d_M_artefact_75 (fun s75 => ?_)
      refine z_aload_n (i := 0) hX d_M_artefact_76 rfl rfl ?_
      refine z_get (C := R_M) (T := F_M) (N := 27) hX in_M 0 rfl rfl 10 (by decide) w_field_M_33_M_10 rfl d_M_artefact_77 ?_
      refine z_aload_n (i := 0) hX d_M_artefact_80 rfl rfl ?_
      refine z_get (C := R_M) (T := F_M) (N := 27) hX in_M 0 rfl rfl 1 (by decide) w_field_M_76_M_1 rfl d_M_artefact_81 ?_
      refine z_iload_n (i := 3) hX d_M_artefact_84 rfl rfl ?_
      refine z_iast (wl := zwM ad ca) (ex := ex) (x9 := (zI s75 38 (s75.1 701 0).toNatClampNeg x3)) hX 8 28 rfl rfl rfl d_M_artefact_85 (fun s85 => ?_)
      refine z_aload_n (i := 0) hX d_M_artefact_86 rfl rfl ?_
      refine z_get (C := R_M) (T := F_M) (N := 27) hX in_M 0 rfl rfl 11 (by decide) w_field_M_36_M_11 rfl d_M_artefact_87 ?_
      refine z_aload_n (i := 0) hX d_M_artefact_90 rfl rfl ?_
      refine z_get (C := R_M) (T := F_M) (N := 27) hX in_M 0 rfl rfl 1 (by decide) w_field_M_76_M_1 rfl d_M_artefact_91 ?_
      refine z_iload (i := 4) hX d_M_artefact_94 rfl ?_
      refine z_iast (wl := zwM ad ca) (ex := ex) (x9 := (zI s85 39 (s85.1 701 0).toNatClampNeg x4)) hX 9 29 rfl rfl rfl d_M_artefact_96 (fun s96 => ?_)
      refine z_aload_n (i := 0) hX d_M_artefact_97 rfl rfl ?_
      refine z_get (C := R_M) (T := F_M) (N := 27) hX in_M 0 rfl rfl 12 (by decide) w_field_M_39_M_12 rfl d_M_artefact_98 ?_
      refine z_aload_n (i := 0) hX d_M_artefact_101 rfl rfl ?_
      refine z_get (C := R_M) (T := F_M) (N := 27) hX in_M 0 rfl rfl 1 (by decide) w_field_M_76_M_1 rfl d_M_artefact_102 ?_
      refine z_iload (i := 5) hX d_M_artefact_105 rfl ?_
      refine z_iast (wl := zwM ad ca) (ex := ex) (x9 := (zI s96 40 (s96.1 701 0).toNatClampNeg x5)) hX 10 30 rfl rfl rfl d_M_artefact_107 (fun s107 => ?_)
      refine z_aload_n (i := 0) hX d_M_artefact_108 rfl rfl ?_
      refine z_get (C := R_M) (T := F_M) (N := 27) hX in_M 0 rfl rfl 13 (by decide) w_field_M_42_M_13 rfl d_M_artefact_109 ?_
      refine z_aload_n (i := 0) hX d_M_artefact_112 rfl rfl ?_
      refine z_get (C := R_M) (T := F_M) (N := 27) hX in_M 0 rfl rfl 1 (by decide) w_field_M_76_M_1 rfl d_M_artefact_113 ?_
      refine z_iload (i := 6) hX d_M_artefact_116 rfl ?_
      refine z_iast (wl := zwM ad ca) (ex := ex) (x9 := (zI s107 41 (s107.1 701 0).toNatClampNeg x6)) hX 11 31 rfl rfl rfl d_M_artefact_118 (fun s118 => ?_)
      refine z_aload_n (i := 0) hX d_M_artefact_119 rfl rfl ?_
      refine z_dup hX d_M_artefact_120 rfl ?_
      refine z_get (C := R_M) (T := F_M) (N := 27) hX in_M 0 rfl rfl 1 (by decide) w_field_M_76_M_1 rfl d_M_artefact_121 ?_
      refine z_iconst (v := 1) hX d_M_artefact_124 (by decide) ?_
      refine z_iadd hX d_M_artefact_125 ?_
      refine z_put (C := R_M) (T := F_M) (N := 27) (wl := zwM ad ca) (ex := ex) (x9 := (zF s118 701 ((s118.1 701 0) + (1 : Int32)))) hX in_M t_M t_M_ok n_M 0 rfl rfl 1 (by decide) w_field_M_76_M_1 rfl rfl rfl (Nat.le_of_ble_eq_true rfl) rfl d_M_artefact_126 (fun s126 => ?_)
      refine z_aload_n (i := 0) hX d_M_artefact_129 rfl rfl ?_
      refine z_get (C := R_M) (T := F_M) (N := 27) hX in_M 0 rfl rfl 1 (by decide) w_field_M_76_M_1 rfl d_M_artefact_130 ?_
      refine z_iconst (v := 1) hX d_M_artefact_133 (by decide) ?_
      refine z_isub hX d_M_artefact_134 ?_
      exact z_iret hR d_M_artefact_135
def fn_M_artefact_47 (x1 : Int64) (x3 : Int32) (x4 : Int32) (x5 : Int32) (x6 : Int32) (σ : zS) : Option (Int32 × zS) := fn_M_artefact_48 x1 x3 x4 x5 x6 (0 : Int32) σ
set_option maxRecDepth 100000 in
set_option maxHeartbeats 4000000 in
theorem bk_M_artefact_47 (l : Launch) (D : va_G) (ad : Nat → Nat) (ca : Nat → ClassId) {V : zV Int32} {ex : va_W} (hX : zIs V l b_M_artefact R_M zTT (zKK D ca) D zcl (zty ca) 8 (zrm 1 22)) (hR : zRi V b_M_artefact (zwM ad ca) ex) : ∀ (x1 : Int64) (x3 : Int32) (x4 : Int32) (x5 : Int32) (x6 : Int32) (σ : zS), zJ V (fn_M_artefact_47 x1 x3 x4 x5 x6 σ) (zwM ad ca σ ++ ex) 47 [(0, .ref (ad 30)), (1, .long x1), (3, .int x3), (4, .int x4), (5, .int x5), (6, .int x6)] [] := by
  intro x1 x3 x4 x5 x6 σ
  show zJ V (fn_M_artefact_48 x1 x3 x4 x5 x6 (0 : Int32) σ) _ _ _ _
  refine z_iconst (v := 0) hX d_M_artefact_47 (by decide) ?_
  exact bk_M_artefact_48 l D ad ca hX hR _ _ _ _ _ _ _
def fn_M_artefact (x1 : Int64) (x3 : Int32) (x4 : Int32) (x5 : Int32) (x6 : Int32) (σ : zS) : Option (Int32 × zS) := zb (fn_M_within x3 (-1 : Int32) (7 : Int32) σ) (fun r4 s4 => if r4 = 0 then fn_M_artefact_47 x1 x3 x4 x5 x6 s4 else zb (fn_M_within x4 (0 : Int32) (7 : Int32) s4) (fun r15 s15 => if r15 = 0 then fn_M_artefact_47 x1 x3 x4 x5 x6 s15 else zb (fn_M_within x5 (0 : Int32) (15 : Int32) s15) (fun r26 s26 => if r26 = 0 then fn_M_artefact_47 x1 x3 x4 x5 x6 s26 else zb (fn_M_within x6 (0 : Int32) (1000000000 : Int32) s26) (fun r37 s37 => if r37 = 0 then fn_M_artefact_47 x1 x3 x4 x5 x6 s37 else fn_M_artefact_48 x1 x3 x4 x5 x6 (1 : Int32) s37))))
set_option maxRecDepth 100000 in
set_option maxHeartbeats 4000000 in
theorem ct_M_artefact (l : Launch) (D : va_G) (ad : Nat → Nat) (ca : Nat → ClassId) (x1 : Int64) (x3 : Int32) (x4 : Int32) (x5 : Int32) (x6 : Int32) (σ : zS) : zC zemI l y_M_artefact (Cond.code y_M_artefact b_M_artefact 8 (some .int) :: zTT) (zrm 1 22) D zcl (zKK D ca) (zwM ad ca) σ [.ref (ad 30), .long x1, .int x3, .int x4, .int x5, .int x6] (fn_M_artefact x1 x3 x4 x5 x6 σ) := by
  refine zmk_i (tys := zty ca) (by decide) (zKK_m D ca) (fun _ h => h.1) (Nat.le_of_ble_eq_true rfl) (fun V ex hX hR => ?_)
  show zJ V (zb (fn_M_within x3 (-1 : Int32) (7 : Int32) σ) (fun r4 s4 => if r4 = 0 then fn_M_artefact_47 x1 x3 x4 x5 x6 s4 else zb (fn_M_within x4 (0 : Int32) (7 : Int32) s4) (fun r15 s15 => if r15 = 0 then fn_M_artefact_47 x1 x3 x4 x5 x6 s15 else zb (fn_M_within x5 (0 : Int32) (15 : Int32) s15) (fun r26 s26 => if r26 = 0 then fn_M_artefact_47 x1 x3 x4 x5 x6 s26 else zb (fn_M_within x6 (0 : Int32) (1000000000 : Int32) s26) (fun r37 s37 => if r37 = 0 then fn_M_artefact_47 x1 x3 x4 x5 x6 s37 else fn_M_artefact_48 x1 x3 x4 x5 x6 (1 : Int32) s37))))) (zwM ad ca σ ++ ex) 0 [(0, .ref (ad 30)), (1, .long x1), (3, .int x3), (4, .int x4), (5, .int x5), (6, .int x6)] []
  refine z_iload_n (i := 3) hX d_M_artefact_0 rfl rfl ?_
  refine z_iconst (v := -1) hX d_M_artefact_1 (by decide) ?_
  refine z_bipush (v := 7) hX d_M_artefact_2 (by decide) ?_
  refine z_callSi (wl := zwM ad ca) (n := 3) (rest := []) hX [.int x3, .int (-1 : Int32), .int (7 : Int32)] (ct_M_within l D ca (zwM ad ca) x3 (-1 : Int32) (7 : Int32) σ) gS_M_82 ⟨rfl, rfl⟩ ⟨by decide, by decide⟩ (by decide +kernel) rfl rfl (Nat.le_of_ble_eq_true rfl) d_M_artefact_4 (fun r4 s4 => ?_)
  refine z_if_eq (tgt := 47) hX d_M_artefact_7 (by decide) (fun c7 => ?_) (fun c7 => ?_)
  · exact bk_M_artefact_47 l D ad ca hX hR _ _ _ _ _ _
  · refine z_iload (i := 4) hX d_M_artefact_10 rfl ?_
    refine z_iconst (v := 0) hX d_M_artefact_12 (by decide) ?_
    refine z_bipush (v := 7) hX d_M_artefact_13 (by decide) ?_
    refine z_callSi (wl := zwM ad ca) (n := 3) (rest := []) hX [.int x4, .int (0 : Int32), .int (7 : Int32)] (ct_M_within l D ca (zwM ad ca) x4 (0 : Int32) (7 : Int32) s4) gS_M_82 ⟨rfl, rfl⟩ ⟨by decide, by decide⟩ (by decide +kernel) rfl rfl (Nat.le_of_ble_eq_true rfl) d_M_artefact_15 (fun r15 s15 => ?_)
    refine z_if_eq (tgt := 47) hX d_M_artefact_18 (by decide) (fun c18 => ?_) (fun c18 => ?_)
    · exact bk_M_artefact_47 l D ad ca hX hR _ _ _ _ _ _
    · refine z_iload (i := 5) hX d_M_artefact_21 rfl ?_
      refine z_iconst (v := 0) hX d_M_artefact_23 (by decide) ?_
      refine z_bipush (v := 15) hX d_M_artefact_24 (by decide) ?_
      refine z_callSi (wl := zwM ad ca) (n := 3) (rest := []) hX [.int x5, .int (0 : Int32), .int (15 : Int32)] (ct_M_within l D ca (zwM ad ca) x5 (0 : Int32) (15 : Int32) s15) gS_M_82 ⟨rfl, rfl⟩ ⟨by decide, by decide⟩ (by decide +kernel) rfl rfl (Nat.le_of_ble_eq_true rfl) d_M_artefact_26 (fun r26 s26 => ?_)
      refine z_if_eq (tgt := 47) hX d_M_artefact_29 (by decide) (fun c29 => ?_) (fun c29 => ?_)
      · exact bk_M_artefact_47 l D ad ca hX hR _ _ _ _ _ _
      · refine z_iload (i := 6) hX d_M_artefact_32 rfl ?_
        refine z_iconst (v := 0) hX d_M_artefact_34 (by decide) ?_
        refine z_ldc (v := 1000000000) hX w_const_M_91_1000000000 d_M_artefact_35 ?_
        refine z_callSi (wl := zwM ad ca) (n := 3) (rest := []) hX [.int x6, .int (0 : Int32), .int (1000000000 : Int32)] (ct_M_within l D ca (zwM ad ca) x6 (0 : Int32) (1000000000 : Int32) s26) gS_M_82 ⟨rfl, rfl⟩ ⟨by decide, by decide⟩ (by decide +kernel) rfl rfl (Nat.le_of_ble_eq_true rfl) d_M_artefact_37 (fun r37 s37 => ?_)
        refine z_if_eq (tgt := 47) hX d_M_artefact_40 (by decide) (fun c40 => ?_) (fun c40 => ?_)
        · exact bk_M_artefact_47 l D ad ca hX hR _ _ _ _ _ _
        · refine z_iconst (v := 1) hX d_M_artefact_43 (by decide) ?_
          refine z_goto (tgt := 48) hX d_M_artefact_44 (by decide) ?_
          exact bk_M_artefact_48 l D ad ca hX hR _ _ _ _ _ _ _
def fn_M_isArtefact (x1 : Int32) (σ : zS) : Option (Int32 × zS) := if x1 < 0 then some ((0 : Int32), σ) else if x1 < (σ.1 701 0) then some ((1 : Int32), σ) else some ((0 : Int32), σ)
set_option maxRecDepth 100000 in
set_option maxHeartbeats 4000000 in
theorem ct_M_isArtefact (l : Launch) (D : va_G) (ad : Nat → Nat) (ca : Nat → ClassId) (x1 : Int32) (σ : zS) : zC zemI l y_M_isArtefact (Cond.code y_M_isArtefact b_M_isArtefact 2 (some .boolean) :: zTT) (zrm 0 0) D zcl (zKK D ca) (zwM ad ca) σ [.ref (ad 30), .int x1] (fn_M_isArtefact x1 σ) := by
  refine zmk_z (tys := zty ca) (by decide) (zKK_m D ca) (fun _ h => h.1) (Nat.le_of_ble_eq_true rfl) (fun V ex hX hR => ?_)
  show zJ V (if x1 < 0 then some ((0 : Int32), σ) else if x1 < (σ.1 701 0) then some ((1 : Int32), σ) else some ((0 : Int32), σ)) (zwM ad ca σ ++ ex) 0 [(0, .ref (ad 30)), (1, .int x1)] []
  refine z_iload_n (i := 1) hX d_M_isArtefact_0 rfl rfl ?_
  refine z_if_lt (tgt := 16) hX d_M_isArtefact_1 (by decide) (fun c1 => ?_) (fun c1 => ?_)
  · refine z_iconst (v := 0) hX d_M_isArtefact_16 (by decide) ?_
    exact z_zret hR rfl d_M_isArtefact_17
  · refine z_iload_n (i := 1) hX d_M_isArtefact_4 rfl rfl ?_
    refine z_aload_n (i := 0) hX d_M_isArtefact_5 rfl rfl ?_
    refine z_get (C := R_M) (T := F_M) (N := 27) hX in_M 0 rfl rfl 1 (by decide) w_field_M_76_M_1 rfl d_M_isArtefact_6 ?_
    refine z_icmp_ge (tgt := 16) hX d_M_isArtefact_9 (by decide) (fun c9 => ?_) (fun c9 => ?_)
    · refine z_iconst (v := 1) hX d_M_isArtefact_12 (by decide) ?_
      refine z_goto (tgt := 17) hX d_M_isArtefact_13 (by decide) ?_
      exact z_zret hR rfl d_M_isArtefact_17
    · refine z_iconst (v := 0) hX d_M_isArtefact_16 (by decide) ?_
      exact z_zret hR rfl d_M_isArtefact_17
def fn_M_hasUse_5 : Nat → Int32 → Int32 → Int32 → Int32 → zS → Option (Int32 × zS)
  | 0, _, _, _, _, _ => none
  | n + 1, x1, x2, x3, x4, σ => zgd (zin x1 32) (if x4 < (σ.1 42 x1.toNatClampNeg) then if x3 = 0 then zgd (zin (((6 : Int32) * x1) + x4) 192) (if (σ.1 43 (((6 : Int32) * x1) + x4).toNatClampNeg) = x2 then fn_M_hasUse_5 n x1 x2 (1 : Int32) (x4 + 1) σ else fn_M_hasUse_5 n x1 x2 (0 : Int32) (x4 + 1) σ) else fn_M_hasUse_5 n x1 x2 (1 : Int32) (x4 + 1) σ else zgd (zbo x3) (some (x3, σ)))
set_option maxRecDepth 100000 in
set_option maxHeartbeats 4000000 in
theorem bk_M_hasUse_5 (l : Launch) (D : va_G) (ad : Nat → Nat) (ca : Nat → ClassId) {V : zV Int32} {ex : va_W} (hX : zIs V l b_M_hasUse R_M zTT (zKK D ca) D zcl (zty ca) 5 (zrm 0 0)) (hR : zRz V b_M_hasUse (zwM ad ca) ex) : ∀ (n : Nat) (x1 : Int32) (x2 : Int32) (x3 : Int32) (x4 : Int32) (σ : zS), zJ V (fn_M_hasUse_5 n x1 x2 x3 x4 σ) (zwM ad ca σ ++ ex) 5 [(0, .ref (ad 30)), (1, .int x1), (2, .int x2), (3, .int x3), (4, .int x4)] [] := by
  intro n
  induction n with
  | zero => intros; exact z_none
  | succ n ih =>
    intro x1 x2 x3 x4 σ
    show zJ V (zgd (zin x1 32) (if x4 < (σ.1 42 x1.toNatClampNeg) then if x3 = 0 then zgd (zin (((6 : Int32) * x1) + x4) 192) (if (σ.1 43 (((6 : Int32) * x1) + x4).toNatClampNeg) = x2 then fn_M_hasUse_5 n x1 x2 (1 : Int32) (x4 + 1) σ else fn_M_hasUse_5 n x1 x2 (0 : Int32) (x4 + 1) σ) else fn_M_hasUse_5 n x1 x2 (1 : Int32) (x4 + 1) σ else zgd (zbo x3) (some (x3, σ)))) _ _ _ _
    refine z_iload (i := 4) hX d_M_hasUse_5 rfl ?_
    refine z_aload_n (i := 0) hX d_M_hasUse_7 rfl rfl ?_
    refine z_get (C := R_M) (T := F_M) (N := 27) hX in_M 0 rfl rfl 14 (by decide) w_field_M_45_M_14 rfl d_M_hasUse_8 ?_
    refine z_iload_n (i := 1) hX d_M_hasUse_11 rfl rfl ?_
    refine z_iald hX 12 32 rfl rfl d_M_hasUse_12 ?_
    refine z_icmp_ge (tgt := 48) hX d_M_hasUse_13 (by decide) (fun c13 => ?_) (fun c13 => ?_)
    · refine z_iload_n (i := 3) hX d_M_hasUse_16 rfl rfl ?_
      refine z_if_ne (tgt := 36) hX d_M_hasUse_17 (by decide) (fun c17 => ?_) (fun c17 => ?_)
      · refine z_aload_n (i := 0) hX d_M_hasUse_20 rfl rfl ?_
        refine z_get (C := R_M) (T := F_M) (N := 27) hX in_M 0 rfl rfl 15 (by decide) w_field_M_48_M_15 rfl d_M_hasUse_21 ?_
        refine z_bipush (v := 6) hX d_M_hasUse_24 (by decide) ?_
        refine z_iload_n (i := 1) hX d_M_hasUse_26 rfl rfl ?_
        refine z_imul hX d_M_hasUse_27 ?_
        refine z_iload (i := 4) hX d_M_hasUse_28 rfl ?_
        refine z_iadd hX d_M_hasUse_30 ?_
        refine z_iald hX 13 33 rfl rfl d_M_hasUse_31 ?_
        refine z_iload_n (i := 2) hX d_M_hasUse_32 rfl rfl ?_
        refine z_icmp_ne (tgt := 40) hX d_M_hasUse_33 (by decide) (fun c33 => ?_) (fun c33 => ?_)
        · refine z_iconst (v := 1) hX d_M_hasUse_36 (by decide) ?_
          refine z_goto (tgt := 41) hX d_M_hasUse_37 (by decide) ?_
          refine z_istore_n (i := 3) (lv2 := [(3, .int (1 : Int32)), (0, .ref (ad 30)), (1, .int x1), (2, .int x2), (4, .int x4)]) hX d_M_hasUse_41 rfl (by decide) rfl ?_
          refine z_iinc (v := x4 + 1) (lv2 := [(4, .int (x4 + 1)), (3, .int (1 : Int32)), (0, .ref (ad 30)), (1, .int x1), (2, .int x2)]) hX d_M_hasUse_42 4 rfl (by first | rfl | decide) (by decide) rfl ?_
          refine z_goto (tgt := 5) hX d_M_hasUse_45 (by decide) ?_
          refine z_lv hX [2, 3, 4, 1, 0] (lv2 := [(0, .ref (ad 30)), (1, .int x1), (2, .int x2), (3, .int (1 : Int32)), (4, .int (x4 + 1))]) rfl ?_
          exact ih _ _ _ _ _
        · refine z_iconst (v := 0) hX d_M_hasUse_40 (by decide) ?_
          refine z_istore_n (i := 3) (lv2 := [(3, .int (0 : Int32)), (0, .ref (ad 30)), (1, .int x1), (2, .int x2), (4, .int x4)]) hX d_M_hasUse_41 rfl (by decide) rfl ?_
          refine z_iinc (v := x4 + 1) (lv2 := [(4, .int (x4 + 1)), (3, .int (0 : Int32)), (0, .ref (ad 30)), (1, .int x1), (2, .int x2)]) hX d_M_hasUse_42 4 rfl (by first | rfl | decide) (by decide) rfl ?_
          refine z_goto (tgt := 5) hX d_M_hasUse_45 (by decide) ?_
          refine z_lv hX [2, 3, 4, 1, 0] (lv2 := [(0, .ref (ad 30)), (1, .int x1), (2, .int x2), (3, .int (0 : Int32)), (4, .int (x4 + 1))]) rfl ?_
          exact ih _ _ _ _ _
      · refine z_iconst (v := 1) hX d_M_hasUse_36 (by decide) ?_
        refine z_goto (tgt := 41) hX d_M_hasUse_37 (by decide) ?_
        refine z_istore_n (i := 3) (lv2 := [(3, .int (1 : Int32)), (0, .ref (ad 30)), (1, .int x1), (2, .int x2), (4, .int x4)]) hX d_M_hasUse_41 rfl (by decide) rfl ?_
        refine z_iinc (v := x4 + 1) (lv2 := [(4, .int (x4 + 1)), (3, .int (1 : Int32)), (0, .ref (ad 30)), (1, .int x1), (2, .int x2)]) hX d_M_hasUse_42 4 rfl (by first | rfl | decide) (by decide) rfl ?_
        refine z_goto (tgt := 5) hX d_M_hasUse_45 (by decide) ?_
        refine z_lv hX [2, 3, 4, 1, 0] (lv2 := [(0, .ref (ad 30)), (1, .int x1), (2, .int x2), (3, .int (1 : Int32)), (4, .int (x4 + 1))]) rfl ?_
        exact ih _ _ _ _ _
    · refine z_iload_n (i := 3) hX d_M_hasUse_48 rfl rfl ?_
      exact z_zretg hR d_M_hasUse_49
def fn_M_hasUse (x1 : Int32) (x2 : Int32) (σ : zS) : Option (Int32 × zS) := fn_M_hasUse_5 100 x1 x2 (0 : Int32) (0 : Int32) σ
set_option maxRecDepth 100000 in
set_option maxHeartbeats 4000000 in
theorem ct_M_hasUse (l : Launch) (D : va_G) (ad : Nat → Nat) (ca : Nat → ClassId) (x1 : Int32) (x2 : Int32) (σ : zS) : zC zemI l y_M_hasUse (Cond.code y_M_hasUse b_M_hasUse 5 (some .boolean) :: zTT) (zrm 0 0) D zcl (zKK D ca) (zwM ad ca) σ [.ref (ad 30), .int x1, .int x2] (fn_M_hasUse x1 x2 σ) := by
  refine zmk_z (tys := zty ca) (by decide) (zKK_m D ca) (fun _ h => h.1) (Nat.le_of_ble_eq_true rfl) (fun V ex hX hR => ?_)
  show zJ V (fn_M_hasUse_5 100 x1 x2 (0 : Int32) (0 : Int32) σ) (zwM ad ca σ ++ ex) 0 [(0, .ref (ad 30)), (1, .int x1), (2, .int x2)] []
  refine z_iconst (v := 0) hX d_M_hasUse_0 (by decide) ?_
  refine z_istore_n (i := 3) (lv2 := [(3, .int (0 : Int32)), (0, .ref (ad 30)), (1, .int x1), (2, .int x2)]) hX d_M_hasUse_1 rfl (by decide) rfl ?_
  refine z_iconst (v := 0) hX d_M_hasUse_2 (by decide) ?_
  refine z_istore (i := 4) (lv2 := [(4, .int (0 : Int32)), (3, .int (0 : Int32)), (0, .ref (ad 30)), (1, .int x1), (2, .int x2)]) hX d_M_hasUse_3 (by decide) rfl ?_
  refine z_lv hX [2, 3, 4, 1, 0] (lv2 := [(0, .ref (ad 30)), (1, .int x1), (2, .int x2), (3, .int (0 : Int32)), (4, .int (0 : Int32))]) rfl ?_
  exact bk_M_hasUse_5 l D ad ca hX hR 100 _ _ _ _ _
def fn_M_uses (x1 : Int32) (x2 : Int32) (σ : zS) : Option (Int32 × zS) := zb (fn_M_isArtefact x1 σ) (fun r2 s2 => if r2 = 0 then some ((0 : Int32), s2) else zb (fn_M_isSource x2 s2) (fun r10 s10 => if r10 = 0 then some ((0 : Int32), s10) else zb (fn_M_hasUse x1 x2 s10) (fun r19 s19 => if r19 = 0 then zgd (zin x1 32) (if (s19.1 42 x1.toNatClampNeg) = (6 : Int32) then some ((0 : Int32), s19) else zgd (zin x1 32) (zgd (zin (((6 : Int32) * x1) + (s19.1 42 x1.toNatClampNeg)) 192) (zst (zI s19 43 (((6 : Int32) * x1) + (s19.1 42 x1.toNatClampNeg)).toNatClampNeg x2) (fun s54 => zgd (zin x1 32) (zgd (zin x1 32) (zst (zI s54 42 x1.toNatClampNeg ((s54.1 42 x1.toNatClampNeg) + (1 : Int32))) (fun s64 => some ((1 : Int32), s64)))))))) else some ((0 : Int32), s19))))
set_option maxRecDepth 100000 in
set_option maxHeartbeats 4000000 in
theorem ct_M_uses (l : Launch) (D : va_G) (ad : Nat → Nat) (ca : Nat → ClassId) (x1 : Int32) (x2 : Int32) (σ : zS) : zC zemI l y_M_uses (Cond.code y_M_uses b_M_uses 3 (some .boolean) :: zTT) (zrm 1 24) D zcl (zKK D ca) (zwM ad ca) σ [.ref (ad 30), .int x1, .int x2] (fn_M_uses x1 x2 σ) := by
  refine zmk_z (tys := zty ca) (by decide) (zKK_m D ca) (fun _ h => h.1) (Nat.le_of_ble_eq_true rfl) (fun V ex hX hR => ?_)
  show zJ V (zb (fn_M_isArtefact x1 σ) (fun r2 s2 => if r2 = 0 then some ((0 : Int32), s2) else zb (fn_M_isSource x2 s2) (fun r10 s10 => if r10 = 0 then some ((0 : Int32), s10) else zb (fn_M_hasUse x1 x2 s10) (fun r19 s19 => if r19 = 0 then zgd (zin x1 32) (if (s19.1 42 x1.toNatClampNeg) = (6 : Int32) then some ((0 : Int32), s19) else zgd (zin x1 32) (zgd (zin (((6 : Int32) * x1) + (s19.1 42 x1.toNatClampNeg)) 192) (zst (zI s19 43 (((6 : Int32) * x1) + (s19.1 42 x1.toNatClampNeg)).toNatClampNeg x2) (fun s54 => zgd (zin x1 32) (zgd (zin x1 32) (zst (zI s54 42 x1.toNatClampNeg ((s54.1 42 x1.toNatClampNeg) + (1 : Int32))) (fun s64 => some ((1 : Int32), s64)))))))) else some ((0 : Int32), s19))))) (zwM ad ca σ ++ ex) 0 [(0, .ref (ad 30)), (1, .int x1), (2, .int x2)] []
  refine z_aload_n (i := 0) hX d_M_uses_0 rfl rfl ?_
  refine z_iload_n (i := 1) hX d_M_uses_1 rfl rfl ?_
  refine z_callVi (wl := zwM ad ca) (C := R_M) (n := 1) (rest := []) hX [.int x1] (ct_M_isArtefact l D ad ca x1 σ) gV_M_92 ⟨rfl, rfl⟩ ⟨by decide, by decide⟩ (by decide +kernel) rfl 0 rfl rfl rfl rfl (Nat.le_of_ble_eq_true rfl) d_M_uses_2 (fun r2 s2 => ?_)
  refine z_if_eq (tgt := 36) hX d_M_uses_5 (by decide) (fun c5 => ?_) (fun c5 => ?_)
  · refine z_iconst (v := 0) hX d_M_uses_36 (by decide) ?_
    exact z_zret hR rfl d_M_uses_37
  · refine z_aload_n (i := 0) hX d_M_uses_8 rfl rfl ?_
    refine z_iload_n (i := 2) hX d_M_uses_9 rfl rfl ?_
    refine z_callVi (wl := zwM ad ca) (C := R_M) (n := 1) (rest := []) hX [.int x2] (ct_M_isSource l D ad ca x2 s2) gV_M_87 ⟨rfl, rfl⟩ ⟨by decide, by decide⟩ (by decide +kernel) rfl 0 rfl rfl rfl rfl (Nat.le_of_ble_eq_true rfl) d_M_uses_10 (fun r10 s10 => ?_)
    refine z_if_eq (tgt := 36) hX d_M_uses_13 (by decide) (fun c13 => ?_) (fun c13 => ?_)
    · refine z_iconst (v := 0) hX d_M_uses_36 (by decide) ?_
      exact z_zret hR rfl d_M_uses_37
    · refine z_aload_n (i := 0) hX d_M_uses_16 rfl rfl ?_
      refine z_iload_n (i := 1) hX d_M_uses_17 rfl rfl ?_
      refine z_iload_n (i := 2) hX d_M_uses_18 rfl rfl ?_
      refine z_callVi (wl := zwM ad ca) (C := R_M) (n := 2) (rest := []) hX [.int x1, .int x2] (ct_M_hasUse l D ad ca x1 x2 s10) gV_M_95 ⟨rfl, rfl⟩ ⟨by decide, by decide⟩ (by decide +kernel) rfl 0 rfl rfl rfl rfl (Nat.le_of_ble_eq_true rfl) d_M_uses_19 (fun r19 s19 => ?_)
      refine z_if_ne (tgt := 36) hX d_M_uses_22 (by decide) (fun c22 => ?_) (fun c22 => ?_)
      · refine z_aload_n (i := 0) hX d_M_uses_25 rfl rfl ?_
        refine z_get (C := R_M) (T := F_M) (N := 27) hX in_M 0 rfl rfl 14 (by decide) w_field_M_45_M_14 rfl d_M_uses_26 ?_
        refine z_iload_n (i := 1) hX d_M_uses_29 rfl rfl ?_
        refine z_iald hX 12 32 rfl rfl d_M_uses_30 ?_
        refine z_bipush (v := 6) hX d_M_uses_31 (by decide) ?_
        refine z_icmp_ne (tgt := 38) hX d_M_uses_33 (by decide) (fun c33 => ?_) (fun c33 => ?_)
        · refine z_iconst (v := 0) hX d_M_uses_36 (by decide) ?_
          exact z_zret hR rfl d_M_uses_37
        · refine z_aload_n (i := 0) hX d_M_uses_38 rfl rfl ?_
          refine z_get (C := R_M) (T := F_M) (N := 27) hX in_M 0 rfl rfl 15 (by decide) w_field_M_48_M_15 rfl d_M_uses_39 ?_
          refine z_bipush (v := 6) hX d_M_uses_42 (by decide) ?_
          refine z_iload_n (i := 1) hX d_M_uses_44 rfl rfl ?_
          refine z_imul hX d_M_uses_45 ?_
          refine z_aload_n (i := 0) hX d_M_uses_46 rfl rfl ?_
          refine z_get (C := R_M) (T := F_M) (N := 27) hX in_M 0 rfl rfl 14 (by decide) w_field_M_45_M_14 rfl d_M_uses_47 ?_
          refine z_iload_n (i := 1) hX d_M_uses_50 rfl rfl ?_
          refine z_iald hX 12 32 rfl rfl d_M_uses_51 ?_
          refine z_iadd hX d_M_uses_52 ?_
          refine z_iload_n (i := 2) hX d_M_uses_53 rfl rfl ?_
          refine z_iast (wl := zwM ad ca) (ex := ex) (x9 := (zI s19 43 (((6 : Int32) * x1) + (s19.1 42 x1.toNatClampNeg)).toNatClampNeg x2)) hX 13 33 rfl rfl rfl d_M_uses_54 (fun s54 => ?_)
          refine z_aload_n (i := 0) hX d_M_uses_55 rfl rfl ?_
          refine z_get (C := R_M) (T := F_M) (N := 27) hX in_M 0 rfl rfl 14 (by decide) w_field_M_45_M_14 rfl d_M_uses_56 ?_
          refine z_iload_n (i := 1) hX d_M_uses_59 rfl rfl ?_
          refine z_dup2 hX d_M_uses_60 rfl rfl ?_
          refine z_iald hX 12 32 rfl rfl d_M_uses_61 ?_
          refine z_iconst (v := 1) hX d_M_uses_62 (by decide) ?_
          refine z_iadd hX d_M_uses_63 ?_
          refine z_iast (wl := zwM ad ca) (ex := ex) (x9 := (zI s54 42 x1.toNatClampNeg ((s54.1 42 x1.toNatClampNeg) + (1 : Int32)))) hX 12 32 rfl rfl rfl d_M_uses_64 (fun s64 => ?_)
          refine z_iconst (v := 1) hX d_M_uses_65 (by decide) ?_
          exact z_zret hR rfl d_M_uses_66
      · refine z_iconst (v := 0) hX d_M_uses_36 (by decide) ?_
        exact z_zret hR rfl d_M_uses_37
def fn_M_hasNeed_6 : Nat → Int32 → Int64 → Int32 → Int32 → zS → Option (Int32 × zS)
  | 0, _, _, _, _, _ => none
  | n + 1, x1, x2, x4, x5, σ => zgd (zin x1 32) (if x5 < (σ.1 44 x1.toNatClampNeg) then if x4 = 0 then zgd (zin (((6 : Int32) * x1) + x5) 192) (if (lg_cmp (σ.2 36 (((6 : Int32) * x1) + x5).toNatClampNeg) x2) = 0 then fn_M_hasNeed_6 n x1 x2 (1 : Int32) (x5 + 1) σ else fn_M_hasNeed_6 n x1 x2 (0 : Int32) (x5 + 1) σ) else fn_M_hasNeed_6 n x1 x2 (1 : Int32) (x5 + 1) σ else zgd (zbo x4) (some (x4, σ)))
set_option maxRecDepth 100000 in
set_option maxHeartbeats 4000000 in
theorem bk_M_hasNeed_6 (l : Launch) (D : va_G) (ad : Nat → Nat) (ca : Nat → ClassId) {V : zV Int32} {ex : va_W} (hX : zIs V l b_M_hasNeed R_M zTT (zKK D ca) D zcl (zty ca) 6 (zrm 0 0)) (hR : zRz V b_M_hasNeed (zwM ad ca) ex) : ∀ (n : Nat) (x1 : Int32) (x2 : Int64) (x4 : Int32) (x5 : Int32) (σ : zS), zJ V (fn_M_hasNeed_6 n x1 x2 x4 x5 σ) (zwM ad ca σ ++ ex) 6 [(0, .ref (ad 30)), (1, .int x1), (2, .long x2), (4, .int x4), (5, .int x5)] [] := by
  intro n
  induction n with
  | zero => intros; exact z_none
  | succ n ih =>
    intro x1 x2 x4 x5 σ
    show zJ V (zgd (zin x1 32) (if x5 < (σ.1 44 x1.toNatClampNeg) then if x4 = 0 then zgd (zin (((6 : Int32) * x1) + x5) 192) (if (lg_cmp (σ.2 36 (((6 : Int32) * x1) + x5).toNatClampNeg) x2) = 0 then fn_M_hasNeed_6 n x1 x2 (1 : Int32) (x5 + 1) σ else fn_M_hasNeed_6 n x1 x2 (0 : Int32) (x5 + 1) σ) else fn_M_hasNeed_6 n x1 x2 (1 : Int32) (x5 + 1) σ else zgd (zbo x4) (some (x4, σ)))) _ _ _ _
    refine z_iload (i := 5) hX d_M_hasNeed_6 rfl ?_
    refine z_aload_n (i := 0) hX d_M_hasNeed_8 rfl rfl ?_
    refine z_get (C := R_M) (T := F_M) (N := 27) hX in_M 0 rfl rfl 16 (by decide) w_field_M_51_M_16 rfl d_M_hasNeed_9 ?_
    refine z_iload_n (i := 1) hX d_M_hasNeed_12 rfl rfl ?_
    refine z_iald hX 14 34 rfl rfl d_M_hasNeed_13 ?_
    refine z_icmp_ge (tgt := 52) hX d_M_hasNeed_14 (by decide) (fun c14 => ?_) (fun c14 => ?_)
    · refine z_iload (i := 4) hX d_M_hasNeed_17 rfl ?_
      refine z_if_ne (tgt := 39) hX d_M_hasNeed_19 (by decide) (fun c19 => ?_) (fun c19 => ?_)
      · refine z_aload_n (i := 0) hX d_M_hasNeed_22 rfl rfl ?_
        refine z_get (C := R_M) (T := F_M) (N := 27) hX in_M 0 rfl rfl 8 (by decide) w_field_M_27_M_8 rfl d_M_hasNeed_23 ?_
        refine z_bipush (v := 6) hX d_M_hasNeed_26 (by decide) ?_
        refine z_iload_n (i := 1) hX d_M_hasNeed_28 rfl rfl ?_
        refine z_imul hX d_M_hasNeed_29 ?_
        refine z_iload (i := 5) hX d_M_hasNeed_30 rfl ?_
        refine z_iadd hX d_M_hasNeed_32 ?_
        refine z_lald hX 6 26 rfl rfl d_M_hasNeed_33 ?_
        refine z_lload_n (i := 2) hX d_M_hasNeed_34 rfl rfl ?_
        refine z_lcmp hX d_M_hasNeed_35 ?_
        refine z_if_ne (tgt := 43) hX d_M_hasNeed_36 (by decide) (fun c36 => ?_) (fun c36 => ?_)
        · refine z_iconst (v := 1) hX d_M_hasNeed_39 (by decide) ?_
          refine z_goto (tgt := 44) hX d_M_hasNeed_40 (by decide) ?_
          refine z_istore (i := 4) (lv2 := [(4, .int (1 : Int32)), (0, .ref (ad 30)), (1, .int x1), (2, .long x2), (5, .int x5)]) hX d_M_hasNeed_44 (by decide) rfl ?_
          refine z_iinc (v := x5 + 1) (lv2 := [(5, .int (x5 + 1)), (4, .int (1 : Int32)), (0, .ref (ad 30)), (1, .int x1), (2, .long x2)]) hX d_M_hasNeed_46 4 rfl (by first | rfl | decide) (by decide) rfl ?_
          refine z_goto (tgt := 6) hX d_M_hasNeed_49 (by decide) ?_
          refine z_lv hX [2, 3, 4, 1, 0] (lv2 := [(0, .ref (ad 30)), (1, .int x1), (2, .long x2), (4, .int (1 : Int32)), (5, .int (x5 + 1))]) rfl ?_
          exact ih _ _ _ _ _
        · refine z_iconst (v := 0) hX d_M_hasNeed_43 (by decide) ?_
          refine z_istore (i := 4) (lv2 := [(4, .int (0 : Int32)), (0, .ref (ad 30)), (1, .int x1), (2, .long x2), (5, .int x5)]) hX d_M_hasNeed_44 (by decide) rfl ?_
          refine z_iinc (v := x5 + 1) (lv2 := [(5, .int (x5 + 1)), (4, .int (0 : Int32)), (0, .ref (ad 30)), (1, .int x1), (2, .long x2)]) hX d_M_hasNeed_46 4 rfl (by first | rfl | decide) (by decide) rfl ?_
          refine z_goto (tgt := 6) hX d_M_hasNeed_49 (by decide) ?_
          refine z_lv hX [2, 3, 4, 1, 0] (lv2 := [(0, .ref (ad 30)), (1, .int x1), (2, .long x2), (4, .int (0 : Int32)), (5, .int (x5 + 1))]) rfl ?_
          exact ih _ _ _ _ _
      · refine z_iconst (v := 1) hX d_M_hasNeed_39 (by decide) ?_
        refine z_goto (tgt := 44) hX d_M_hasNeed_40 (by decide) ?_
        refine z_istore (i := 4) (lv2 := [(4, .int (1 : Int32)), (0, .ref (ad 30)), (1, .int x1), (2, .long x2), (5, .int x5)]) hX d_M_hasNeed_44 (by decide) rfl ?_
        refine z_iinc (v := x5 + 1) (lv2 := [(5, .int (x5 + 1)), (4, .int (1 : Int32)), (0, .ref (ad 30)), (1, .int x1), (2, .long x2)]) hX d_M_hasNeed_46 4 rfl (by first | rfl | decide) (by decide) rfl ?_
        refine z_goto (tgt := 6) hX d_M_hasNeed_49 (by decide) ?_
        refine z_lv hX [2, 3, 4, 1, 0] (lv2 := [(0, .ref (ad 30)), (1, .int x1), (2, .long x2), (4, .int (1 : Int32)), (5, .int (x5 + 1))]) rfl ?_
        exact ih _ _ _ _ _
    · refine z_iload (i := 4) hX d_M_hasNeed_52 rfl ?_
      exact z_zretg hR d_M_hasNeed_54
def fn_M_hasNeed (x1 : Int32) (x2 : Int64) (σ : zS) : Option (Int32 × zS) := fn_M_hasNeed_6 100 x1 x2 (0 : Int32) (0 : Int32) σ
set_option maxRecDepth 100000 in
set_option maxHeartbeats 4000000 in
theorem ct_M_hasNeed (l : Launch) (D : va_G) (ad : Nat → Nat) (ca : Nat → ClassId) (x1 : Int32) (x2 : Int64) (σ : zS) : zC zemI l y_M_hasNeed (Cond.code y_M_hasNeed b_M_hasNeed 6 (some .boolean) :: zTT) (zrm 0 0) D zcl (zKK D ca) (zwM ad ca) σ [.ref (ad 30), .int x1, .long x2] (fn_M_hasNeed x1 x2 σ) := by
  refine zmk_z (tys := zty ca) (by decide) (zKK_m D ca) (fun _ h => h.1) (Nat.le_of_ble_eq_true rfl) (fun V ex hX hR => ?_)
  show zJ V (fn_M_hasNeed_6 100 x1 x2 (0 : Int32) (0 : Int32) σ) (zwM ad ca σ ++ ex) 0 [(0, .ref (ad 30)), (1, .int x1), (2, .long x2)] []
  refine z_iconst (v := 0) hX d_M_hasNeed_0 (by decide) ?_
  refine z_istore (i := 4) (lv2 := [(4, .int (0 : Int32)), (0, .ref (ad 30)), (1, .int x1), (2, .long x2)]) hX d_M_hasNeed_1 (by decide) rfl ?_
  refine z_iconst (v := 0) hX d_M_hasNeed_3 (by decide) ?_
  refine z_istore (i := 5) (lv2 := [(5, .int (0 : Int32)), (4, .int (0 : Int32)), (0, .ref (ad 30)), (1, .int x1), (2, .long x2)]) hX d_M_hasNeed_4 (by decide) rfl ?_
  refine z_lv hX [2, 3, 4, 1, 0] (lv2 := [(0, .ref (ad 30)), (1, .int x1), (2, .long x2), (4, .int (0 : Int32)), (5, .int (0 : Int32))]) rfl ?_
  exact bk_M_hasNeed_6 l D ad ca hX hR 100 _ _ _ _ _
def fn_M_needs (x1 : Int32) (x2 : Int64) (σ : zS) : Option (Int32 × zS) := zb (fn_M_isArtefact x1 σ) (fun r2 s2 => if r2 = 0 then some ((0 : Int32), s2) else zb (fn_M_hasNeed x1 x2 s2) (fun r11 s11 => if r11 = 0 then zgd (zin x1 32) (if (s11.1 44 x1.toNatClampNeg) = (6 : Int32) then some ((0 : Int32), s11) else zgd (zin x1 32) (zgd (zin (((6 : Int32) * x1) + (s11.1 44 x1.toNatClampNeg)) 192) (zst (zL s11 36 (((6 : Int32) * x1) + (s11.1 44 x1.toNatClampNeg)).toNatClampNeg x2) (fun s46 => zgd (zin x1 32) (zgd (zin x1 32) (zst (zI s46 44 x1.toNatClampNeg ((s46.1 44 x1.toNatClampNeg) + (1 : Int32))) (fun s56 => some ((1 : Int32), s56)))))))) else some ((0 : Int32), s11)))
set_option maxRecDepth 100000 in
set_option maxHeartbeats 4000000 in
theorem ct_M_needs (l : Launch) (D : va_G) (ad : Nat → Nat) (ca : Nat → ClassId) (x1 : Int32) (x2 : Int64) (σ : zS) : zC zemI l y_M_needs (Cond.code y_M_needs b_M_needs 4 (some .boolean) :: zTT) (zrm 1 25) D zcl (zKK D ca) (zwM ad ca) σ [.ref (ad 30), .int x1, .long x2] (fn_M_needs x1 x2 σ) := by
  refine zmk_z (tys := zty ca) (by decide) (zKK_m D ca) (fun _ h => h.1) (Nat.le_of_ble_eq_true rfl) (fun V ex hX hR => ?_)
  show zJ V (zb (fn_M_isArtefact x1 σ) (fun r2 s2 => if r2 = 0 then some ((0 : Int32), s2) else zb (fn_M_hasNeed x1 x2 s2) (fun r11 s11 => if r11 = 0 then zgd (zin x1 32) (if (s11.1 44 x1.toNatClampNeg) = (6 : Int32) then some ((0 : Int32), s11) else zgd (zin x1 32) (zgd (zin (((6 : Int32) * x1) + (s11.1 44 x1.toNatClampNeg)) 192) (zst (zL s11 36 (((6 : Int32) * x1) + (s11.1 44 x1.toNatClampNeg)).toNatClampNeg x2) (fun s46 => zgd (zin x1 32) (zgd (zin x1 32) (zst (zI s46 44 x1.toNatClampNeg ((s46.1 44 x1.toNatClampNeg) + (1 : Int32))) (fun s56 => some ((1 : Int32), s56)))))))) else some ((0 : Int32), s11)))) (zwM ad ca σ ++ ex) 0 [(0, .ref (ad 30)), (1, .int x1), (2, .long x2)] []
  refine z_aload_n (i := 0) hX d_M_needs_0 rfl rfl ?_
  refine z_iload_n (i := 1) hX d_M_needs_1 rfl rfl ?_
  refine z_callVi (wl := zwM ad ca) (C := R_M) (n := 1) (rest := []) hX [.int x1] (ct_M_isArtefact l D ad ca x1 σ) gV_M_92 ⟨rfl, rfl⟩ ⟨by decide, by decide⟩ (by decide +kernel) rfl 0 rfl rfl rfl rfl (Nat.le_of_ble_eq_true rfl) d_M_needs_2 (fun r2 s2 => ?_)
  refine z_if_eq (tgt := 28) hX d_M_needs_5 (by decide) (fun c5 => ?_) (fun c5 => ?_)
  · refine z_iconst (v := 0) hX d_M_needs_28 (by decide) ?_
    exact z_zret hR rfl d_M_needs_29
  · refine z_aload_n (i := 0) hX d_M_needs_8 rfl rfl ?_
    refine z_iload_n (i := 1) hX d_M_needs_9 rfl rfl ?_
    refine z_lload_n (i := 2) hX d_M_needs_10 rfl rfl ?_
    refine z_callVi (wl := zwM ad ca) (C := R_M) (n := 2) (rest := []) hX [.int x1, .long x2] (ct_M_hasNeed l D ad ca x1 x2 s2) gV_M_99 ⟨rfl, rfl⟩ ⟨by decide, by decide⟩ (by decide +kernel) rfl 0 rfl rfl rfl rfl (Nat.le_of_ble_eq_true rfl) d_M_needs_11 (fun r11 s11 => ?_)
    refine z_if_ne (tgt := 28) hX d_M_needs_14 (by decide) (fun c14 => ?_) (fun c14 => ?_)
    · refine z_aload_n (i := 0) hX d_M_needs_17 rfl rfl ?_
      refine z_get (C := R_M) (T := F_M) (N := 27) hX in_M 0 rfl rfl 16 (by decide) w_field_M_51_M_16 rfl d_M_needs_18 ?_
      refine z_iload_n (i := 1) hX d_M_needs_21 rfl rfl ?_
      refine z_iald hX 14 34 rfl rfl d_M_needs_22 ?_
      refine z_bipush (v := 6) hX d_M_needs_23 (by decide) ?_
      refine z_icmp_ne (tgt := 30) hX d_M_needs_25 (by decide) (fun c25 => ?_) (fun c25 => ?_)
      · refine z_iconst (v := 0) hX d_M_needs_28 (by decide) ?_
        exact z_zret hR rfl d_M_needs_29
      · refine z_aload_n (i := 0) hX d_M_needs_30 rfl rfl ?_
        refine z_get (C := R_M) (T := F_M) (N := 27) hX in_M 0 rfl rfl 8 (by decide) w_field_M_27_M_8 rfl d_M_needs_31 ?_
        refine z_bipush (v := 6) hX d_M_needs_34 (by decide) ?_
        refine z_iload_n (i := 1) hX d_M_needs_36 rfl rfl ?_
        refine z_imul hX d_M_needs_37 ?_
        refine z_aload_n (i := 0) hX d_M_needs_38 rfl rfl ?_
        refine z_get (C := R_M) (T := F_M) (N := 27) hX in_M 0 rfl rfl 16 (by decide) w_field_M_51_M_16 rfl d_M_needs_39 ?_
        refine z_iload_n (i := 1) hX d_M_needs_42 rfl rfl ?_
        refine z_iald hX 14 34 rfl rfl d_M_needs_43 ?_
        refine z_iadd hX d_M_needs_44 ?_
        refine z_lload_n (i := 2) hX d_M_needs_45 rfl rfl ?_
        refine z_last (wl := zwM ad ca) (ex := ex) (x9 := (zL s11 36 (((6 : Int32) * x1) + (s11.1 44 x1.toNatClampNeg)).toNatClampNeg x2)) hX 6 26 rfl rfl rfl d_M_needs_46 (fun s46 => ?_)
        refine z_aload_n (i := 0) hX d_M_needs_47 rfl rfl ?_
        refine z_get (C := R_M) (T := F_M) (N := 27) hX in_M 0 rfl rfl 16 (by decide) w_field_M_51_M_16 rfl d_M_needs_48 ?_
        refine z_iload_n (i := 1) hX d_M_needs_51 rfl rfl ?_
        refine z_dup2 hX d_M_needs_52 rfl rfl ?_
        refine z_iald hX 14 34 rfl rfl d_M_needs_53 ?_
        refine z_iconst (v := 1) hX d_M_needs_54 (by decide) ?_
        refine z_iadd hX d_M_needs_55 ?_
        refine z_iast (wl := zwM ad ca) (ex := ex) (x9 := (zI s46 44 x1.toNatClampNeg ((s46.1 44 x1.toNatClampNeg) + (1 : Int32)))) hX 14 34 rfl rfl rfl d_M_needs_56 (fun s56 => ?_)
        refine z_iconst (v := 1) hX d_M_needs_57 (by decide) ?_
        exact z_zret hR rfl d_M_needs_58
    · refine z_iconst (v := 0) hX d_M_needs_28 (by decide) ?_
      exact z_zret hR rfl d_M_needs_29
def fn_M_path (x1 : Int32) (x2 : Int32) (x3 : Int64) (σ : zS) : Option (Int32 × zS) := zb (fn_M_isArtefact x1 σ) (fun r2 s2 => if r2 = 0 then some ((0 : Int32), s2) else zb (fn_M_within x2 (0 : Int32) (7 : Int32) s2) (fun r12 s12 => if r12 = 0 then some ((0 : Int32), s12) else zgd (zin x1 32) (zgd (zin x1 32) (zst (zI s12 45 x1.toNatClampNeg ((s12.1 45 x1.toNatClampNeg) ||| (zshl (1 : Int32) x2))) (fun s35 => zgd (zin (((8 : Int32) * x1) + x2) 256) (zst (zL s35 37 (((8 : Int32) * x1) + x2).toNatClampNeg x3) (fun s47 => some ((1 : Int32), s47))))))))
set_option maxRecDepth 100000 in
set_option maxHeartbeats 4000000 in
theorem ct_M_path (l : Launch) (D : va_G) (ad : Nat → Nat) (ca : Nat → ClassId) (x1 : Int32) (x2 : Int32) (x3 : Int64) (σ : zS) : zC zemI l y_M_path (Cond.code y_M_path b_M_path 5 (some .boolean) :: zTT) (zrm 1 22) D zcl (zKK D ca) (zwM ad ca) σ [.ref (ad 30), .int x1, .int x2, .long x3] (fn_M_path x1 x2 x3 σ) := by
  refine zmk_z (tys := zty ca) (by decide) (zKK_m D ca) (fun _ h => h.1) (Nat.le_of_ble_eq_true rfl) (fun V ex hX hR => ?_)
  show zJ V (zb (fn_M_isArtefact x1 σ) (fun r2 s2 => if r2 = 0 then some ((0 : Int32), s2) else zb (fn_M_within x2 (0 : Int32) (7 : Int32) s2) (fun r12 s12 => if r12 = 0 then some ((0 : Int32), s12) else zgd (zin x1 32) (zgd (zin x1 32) (zst (zI s12 45 x1.toNatClampNeg ((s12.1 45 x1.toNatClampNeg) ||| (zshl (1 : Int32) x2))) (fun s35 => zgd (zin (((8 : Int32) * x1) + x2) 256) (zst (zL s35 37 (((8 : Int32) * x1) + x2).toNatClampNeg x3) (fun s47 => some ((1 : Int32), s47))))))))) (zwM ad ca σ ++ ex) 0 [(0, .ref (ad 30)), (1, .int x1), (2, .int x2), (3, .long x3)] []
  refine z_aload_n (i := 0) hX d_M_path_0 rfl rfl ?_
  refine z_iload_n (i := 1) hX d_M_path_1 rfl rfl ?_
  refine z_callVi (wl := zwM ad ca) (C := R_M) (n := 1) (rest := []) hX [.int x1] (ct_M_isArtefact l D ad ca x1 σ) gV_M_92 ⟨rfl, rfl⟩ ⟨by decide, by decide⟩ (by decide +kernel) rfl 0 rfl rfl rfl rfl (Nat.le_of_ble_eq_true rfl) d_M_path_2 (fun r2 s2 => ?_)
  refine z_if_eq (tgt := 18) hX d_M_path_5 (by decide) (fun c5 => ?_) (fun c5 => ?_)
  · refine z_iconst (v := 0) hX d_M_path_18 (by decide) ?_
    exact z_zret hR rfl d_M_path_19
  · refine z_iload_n (i := 2) hX d_M_path_8 rfl rfl ?_
    refine z_iconst (v := 0) hX d_M_path_9 (by decide) ?_
    refine z_bipush (v := 7) hX d_M_path_10 (by decide) ?_
    refine z_callSi (wl := zwM ad ca) (n := 3) (rest := []) hX [.int x2, .int (0 : Int32), .int (7 : Int32)] (ct_M_within l D ca (zwM ad ca) x2 (0 : Int32) (7 : Int32) s2) gS_M_82 ⟨rfl, rfl⟩ ⟨by decide, by decide⟩ (by decide +kernel) rfl rfl (Nat.le_of_ble_eq_true rfl) d_M_path_12 (fun r12 s12 => ?_)
    refine z_if_ne (tgt := 20) hX d_M_path_15 (by decide) (fun c15 => ?_) (fun c15 => ?_)
    · refine z_iconst (v := 0) hX d_M_path_18 (by decide) ?_
      exact z_zret hR rfl d_M_path_19
    · refine z_aload_n (i := 0) hX d_M_path_20 rfl rfl ?_
      refine z_get (C := R_M) (T := F_M) (N := 27) hX in_M 0 rfl rfl 17 (by decide) w_field_M_54_M_17 rfl d_M_path_21 ?_
      refine z_iload_n (i := 1) hX d_M_path_24 rfl rfl ?_
      refine z_aload_n (i := 0) hX d_M_path_25 rfl rfl ?_
      refine z_get (C := R_M) (T := F_M) (N := 27) hX in_M 0 rfl rfl 17 (by decide) w_field_M_54_M_17 rfl d_M_path_26 ?_
      refine z_iload_n (i := 1) hX d_M_path_29 rfl rfl ?_
      refine z_iald hX 15 35 rfl rfl d_M_path_30 ?_
      refine z_iconst (v := 1) hX d_M_path_31 (by decide) ?_
      refine z_iload_n (i := 2) hX d_M_path_32 rfl rfl ?_
      refine z_ishl hX d_M_path_33 ?_
      refine z_ior hX d_M_path_34 ?_
      refine z_iast (wl := zwM ad ca) (ex := ex) (x9 := (zI s12 45 x1.toNatClampNeg ((s12.1 45 x1.toNatClampNeg) ||| (zshl (1 : Int32) x2)))) hX 15 35 rfl rfl rfl d_M_path_35 (fun s35 => ?_)
      refine z_aload_n (i := 0) hX d_M_path_36 rfl rfl ?_
      refine z_get (C := R_M) (T := F_M) (N := 27) hX in_M 0 rfl rfl 9 (by decide) w_field_M_30_M_9 rfl d_M_path_37 ?_
      refine z_bipush (v := 8) hX d_M_path_40 (by decide) ?_
      refine z_iload_n (i := 1) hX d_M_path_42 rfl rfl ?_
      refine z_imul hX d_M_path_43 ?_
      refine z_iload_n (i := 2) hX d_M_path_44 rfl rfl ?_
      refine z_iadd hX d_M_path_45 ?_
      refine z_lload_n (i := 3) hX d_M_path_46 rfl rfl ?_
      refine z_last (wl := zwM ad ca) (ex := ex) (x9 := (zL s35 37 (((8 : Int32) * x1) + x2).toNatClampNeg x3)) hX 7 27 rfl rfl rfl d_M_path_47 (fun s47 => ?_)
      refine z_iconst (v := 1) hX d_M_path_48 (by decide) ?_
      exact z_zret hR rfl d_M_path_49
def fn_M_policy (x1 : Int32) (x2 : Int32) (σ : zS) : Option (Int32 × zS) := if (σ.1 702 0) = (16 : Int32) then some ((-1 : Int32), σ) else zb (fn_M_within x1 (0 : Int32) (9 : Int32) σ) (fun r13 s13 => if r13 = 0 then some ((-1 : Int32), s13) else zgd (zin (s13.1 702 0) 16) (zst (zI s13 46 (s13.1 702 0).toNatClampNeg x1) (fun s30 => zgd (zin (s30.1 702 0) 16) (zst (zI s30 47 (s30.1 702 0).toNatClampNeg x2) (fun s40 => zst (zF s40 702 ((s40.1 702 0) + (1 : Int32))) (fun s48 => some ((s48.1 702 0) - (1 : Int32), s48)))))))
set_option maxRecDepth 100000 in
set_option maxHeartbeats 4000000 in
theorem ct_M_policy (l : Launch) (D : va_G) (ad : Nat → Nat) (ca : Nat → ClassId) (x1 : Int32) (x2 : Int32) (σ : zS) : zC zemI l y_M_policy (Cond.code y_M_policy b_M_policy 3 (some .int) :: zTT) (zrm 1 22) D zcl (zKK D ca) (zwM ad ca) σ [.ref (ad 30), .int x1, .int x2] (fn_M_policy x1 x2 σ) := by
  refine zmk_i (tys := zty ca) (by decide) (zKK_m D ca) (fun _ h => h.1) (Nat.le_of_ble_eq_true rfl) (fun V ex hX hR => ?_)
  show zJ V (if (σ.1 702 0) = (16 : Int32) then some ((-1 : Int32), σ) else zb (fn_M_within x1 (0 : Int32) (9 : Int32) σ) (fun r13 s13 => if r13 = 0 then some ((-1 : Int32), s13) else zgd (zin (s13.1 702 0) 16) (zst (zI s13 46 (s13.1 702 0).toNatClampNeg x1) (fun s30 => zgd (zin (s30.1 702 0) 16) (zst (zI s30 47 (s30.1 702 0).toNatClampNeg x2) (fun s40 => zst (zF s40 702 ((s40.1 702 0) + (1 : Int32))) (fun s48 => some ((s48.1 702 0) - (1 : Int32), s48)))))))) (zwM ad ca σ ++ ex) 0 [(0, .ref (ad 30)), (1, .int x1), (2, .int x2)] []
  refine z_aload_n (i := 0) hX d_M_policy_0 rfl rfl ?_
  refine z_get (C := R_M) (T := F_M) (N := 27) hX in_M 0 rfl rfl 2 (by decide) w_field_M_103_M_2 rfl d_M_policy_1 ?_
  refine z_bipush (v := 16) hX d_M_policy_4 (by decide) ?_
  refine z_icmp_eq (tgt := 19) hX d_M_policy_6 (by decide) (fun c6 => ?_) (fun c6 => ?_)
  · refine z_iconst (v := -1) hX d_M_policy_19 (by decide) ?_
    exact z_iret hR d_M_policy_20
  · refine z_iload_n (i := 1) hX d_M_policy_9 rfl rfl ?_
    refine z_iconst (v := 0) hX d_M_policy_10 (by decide) ?_
    refine z_bipush (v := 9) hX d_M_policy_11 (by decide) ?_
    refine z_callSi (wl := zwM ad ca) (n := 3) (rest := []) hX [.int x1, .int (0 : Int32), .int (9 : Int32)] (ct_M_within l D ca (zwM ad ca) x1 (0 : Int32) (9 : Int32) σ) gS_M_82 ⟨rfl, rfl⟩ ⟨by decide, by decide⟩ (by decide +kernel) rfl rfl (Nat.le_of_ble_eq_true rfl) d_M_policy_13 (fun r13 s13 => ?_)
    refine z_if_ne (tgt := 21) hX d_M_policy_16 (by decide) (fun c16 => ?_) (fun c16 => ?_)
    · refine z_iconst (v := -1) hX d_M_policy_19 (by decide) ?_
      exact z_iret hR d_M_policy_20
    · refine z_aload_n (i := 0) hX d_M_policy_21 rfl rfl ?_
      refine z_get (C := R_M) (T := F_M) (N := 27) hX in_M 0 rfl rfl 18 (by decide) w_field_M_57_M_18 rfl d_M_policy_22 ?_
      refine z_aload_n (i := 0) hX d_M_policy_25 rfl rfl ?_
      refine z_get (C := R_M) (T := F_M) (N := 27) hX in_M 0 rfl rfl 2 (by decide) w_field_M_103_M_2 rfl d_M_policy_26 ?_
      refine z_iload_n (i := 1) hX d_M_policy_29 rfl rfl ?_
      refine z_iast (wl := zwM ad ca) (ex := ex) (x9 := (zI s13 46 (s13.1 702 0).toNatClampNeg x1)) hX 16 36 rfl rfl rfl d_M_policy_30 (fun s30 => ?_)
      refine z_aload_n (i := 0) hX d_M_policy_31 rfl rfl ?_
      refine z_get (C := R_M) (T := F_M) (N := 27) hX in_M 0 rfl rfl 19 (by decide) w_field_M_60_M_19 rfl d_M_policy_32 ?_
      refine z_aload_n (i := 0) hX d_M_policy_35 rfl rfl ?_
      refine z_get (C := R_M) (T := F_M) (N := 27) hX in_M 0 rfl rfl 2 (by decide) w_field_M_103_M_2 rfl d_M_policy_36 ?_
      refine z_iload_n (i := 2) hX d_M_policy_39 rfl rfl ?_
      refine z_iast (wl := zwM ad ca) (ex := ex) (x9 := (zI s30 47 (s30.1 702 0).toNatClampNeg x2)) hX 17 37 rfl rfl rfl d_M_policy_40 (fun s40 => ?_)
      refine z_aload_n (i := 0) hX d_M_policy_41 rfl rfl ?_
      refine z_dup hX d_M_policy_42 rfl ?_
      refine z_get (C := R_M) (T := F_M) (N := 27) hX in_M 0 rfl rfl 2 (by decide) w_field_M_103_M_2 rfl d_M_policy_43 ?_
      refine z_iconst (v := 1) hX d_M_policy_46 (by decide) ?_
      refine z_iadd hX d_M_policy_47 ?_
      refine z_put (C := R_M) (T := F_M) (N := 27) (wl := zwM ad ca) (ex := ex) (x9 := (zF s40 702 ((s40.1 702 0) + (1 : Int32)))) hX in_M t_M t_M_ok n_M 0 rfl rfl 2 (by decide) w_field_M_103_M_2 rfl rfl rfl (Nat.le_of_ble_eq_true rfl) rfl d_M_policy_48 (fun s48 => ?_)
      refine z_aload_n (i := 0) hX d_M_policy_51 rfl rfl ?_
      refine z_get (C := R_M) (T := F_M) (N := 27) hX in_M 0 rfl rfl 2 (by decide) w_field_M_103_M_2 rfl d_M_policy_52 ?_
      refine z_iconst (v := 1) hX d_M_policy_55 (by decide) ?_
      refine z_isub hX d_M_policy_56 ?_
      exact z_iret hR d_M_policy_57
def fn_M_come_2 : Nat → Int32 → Int32 → zS → Option (Unit × zS)
  | 0, _, _, _ => none
  | n + 1, x1, x2, σ => if x2 < (σ.1 721 0) then zgd (zin x2 32) (if (σ.1 48 x2.toNatClampNeg) = x1 then some ((), σ) else fn_M_come_2 n x1 (x2 + 1) σ) else zgd (zin (σ.1 721 0) 32) (zst (zI σ 48 (σ.1 721 0).toNatClampNeg x1) (fun s36 => zst (zF s36 721 ((s36.1 721 0) + (1 : Int32))) (fun s44 => some ((), s44))))
set_option maxRecDepth 100000 in
set_option maxHeartbeats 4000000 in
theorem bk_M_come_2 (l : Launch) (D : va_G) (ad : Nat → Nat) (ca : Nat → ClassId) {V : zV Unit} {ex : va_W} (hX : zIs V l b_M_come R_M zTT (zKK D ca) D zcl (zty ca) 3 (zrm 0 0)) (hR : zRv V b_M_come (zwM ad ca) ex) : ∀ (n : Nat) (x1 : Int32) (x2 : Int32) (σ : zS), zJ V (fn_M_come_2 n x1 x2 σ) (zwM ad ca σ ++ ex) 2 [(0, .ref (ad 30)), (1, .int x1), (2, .int x2)] [] := by
  intro n
  induction n with
  | zero => intros; exact z_none
  | succ n ih =>
    intro x1 x2 σ
    show zJ V (if x2 < (σ.1 721 0) then zgd (zin x2 32) (if (σ.1 48 x2.toNatClampNeg) = x1 then some ((), σ) else fn_M_come_2 n x1 (x2 + 1) σ) else zgd (zin (σ.1 721 0) 32) (zst (zI σ 48 (σ.1 721 0).toNatClampNeg x1) (fun s36 => zst (zF s36 721 ((s36.1 721 0) + (1 : Int32))) (fun s44 => some ((), s44))))) _ _ _ _
    refine z_iload_n (i := 2) hX d_M_come_2 rfl rfl ?_
    refine z_aload_n (i := 0) hX d_M_come_3 rfl rfl ?_
    refine z_get (C := R_M) (T := F_M) (N := 27) hX in_M 0 rfl rfl 21 (by decide) w_field_M_106_M_21 rfl d_M_come_4 ?_
    refine z_icmp_ge (tgt := 27) hX d_M_come_7 (by decide) (fun c7 => ?_) (fun c7 => ?_)
    · refine z_aload_n (i := 0) hX d_M_come_10 rfl rfl ?_
      refine z_get (C := R_M) (T := F_M) (N := 27) hX in_M 0 rfl rfl 24 (by decide) w_field_M_67_M_24 rfl d_M_come_11 ?_
      refine z_iload_n (i := 2) hX d_M_come_14 rfl rfl ?_
      refine z_iald hX 18 38 rfl rfl d_M_come_15 ?_
      refine z_iload_n (i := 1) hX d_M_come_16 rfl rfl ?_
      refine z_icmp_ne (tgt := 21) hX d_M_come_17 (by decide) (fun c17 => ?_) (fun c17 => ?_)
      · exact z_vret hR d_M_come_20
      · refine z_iinc (v := x2 + 1) (lv2 := [(2, .int (x2 + 1)), (0, .ref (ad 30)), (1, .int x1)]) hX d_M_come_21 2 rfl (by first | rfl | decide) (by decide) rfl ?_
        refine z_goto (tgt := 2) hX d_M_come_24 (by decide) ?_
        refine z_lv hX [1, 2, 0] (lv2 := [(0, .ref (ad 30)), (1, .int x1), (2, .int (x2 + 1))]) rfl ?_
        exact ih _ _ _
    · refine z_aload_n (i := 0) hX d_M_come_27 rfl rfl ?_
      refine z_get (C := R_M) (T := F_M) (N := 27) hX in_M 0 rfl rfl 24 (by decide) w_field_M_67_M_24 rfl d_M_come_28 ?_
      refine z_aload_n (i := 0) hX d_M_come_31 rfl rfl ?_
      refine z_get (C := R_M) (T := F_M) (N := 27) hX in_M 0 rfl rfl 21 (by decide) w_field_M_106_M_21 rfl d_M_come_32 ?_
      refine z_iload_n (i := 1) hX d_M_come_35 rfl rfl ?_
      refine z_iast (wl := zwM ad ca) (ex := ex) (x9 := (zI σ 48 (σ.1 721 0).toNatClampNeg x1)) hX 18 38 rfl rfl rfl d_M_come_36 (fun s36 => ?_)
      refine z_aload_n (i := 0) hX d_M_come_37 rfl rfl ?_
      refine z_dup hX d_M_come_38 rfl ?_
      refine z_get (C := R_M) (T := F_M) (N := 27) hX in_M 0 rfl rfl 21 (by decide) w_field_M_106_M_21 rfl d_M_come_39 ?_
      refine z_iconst (v := 1) hX d_M_come_42 (by decide) ?_
      refine z_iadd hX d_M_come_43 ?_
      refine z_put (C := R_M) (T := F_M) (N := 27) (wl := zwM ad ca) (ex := ex) (x9 := (zF s36 721 ((s36.1 721 0) + (1 : Int32)))) hX in_M t_M t_M_ok n_M 0 rfl rfl 21 (by decide) w_field_M_106_M_21 rfl rfl rfl (Nat.le_of_ble_eq_true rfl) rfl d_M_come_44 (fun s44 => ?_)
      exact z_vret hR d_M_come_47
def fn_M_come (x1 : Int32) (σ : zS) : Option (Unit × zS) := fn_M_come_2 100 x1 (0 : Int32) σ
set_option maxRecDepth 100000 in
set_option maxHeartbeats 4000000 in
theorem ct_M_come (l : Launch) (D : va_G) (ad : Nat → Nat) (ca : Nat → ClassId) (x1 : Int32) (σ : zS) : zC zemV l y_M_come (Cond.code y_M_come b_M_come 3 none :: zTT) (zrm 0 0) D zcl (zKK D ca) (zwM ad ca) σ [.ref (ad 30), .int x1] (fn_M_come x1 σ) := by
  refine zmk_v (tys := zty ca) (by decide) (zKK_m D ca) (fun _ h => h.1) (Nat.le_of_ble_eq_true rfl) (fun V ex hX hR => ?_)
  show zJ V (fn_M_come_2 100 x1 (0 : Int32) σ) (zwM ad ca σ ++ ex) 0 [(0, .ref (ad 30)), (1, .int x1)] []
  refine z_iconst (v := 0) hX d_M_come_0 (by decide) ?_
  refine z_istore_n (i := 2) (lv2 := [(2, .int (0 : Int32)), (0, .ref (ad 30)), (1, .int x1)]) hX d_M_come_1 rfl (by decide) rfl ?_
  refine z_lv hX [1, 2, 0] (lv2 := [(0, .ref (ad 30)), (1, .int x1), (2, .int (0 : Int32))]) rfl ?_
  exact bk_M_come_2 l D ad ca hX hR 100 _ _ _
def fn_M_meets_2 : Nat → Int64 → Int32 → zS → Option (Int32 × zS)
  | 0, _, _, _ => none
  | n + 1, x1, x3, σ => if x3 < (σ.1 701 0) then zgd (zin x3 32) (if (lg_cmp (σ.2 35 x3.toNatClampNeg) x1) = 0 then if x3 < (σ.1 701 0) then some (x3, σ) else some ((-1 : Int32), σ) else fn_M_meets_2 n x1 (x3 + 1) σ) else if x3 < (σ.1 701 0) then some (x3, σ) else some ((-1 : Int32), σ)
set_option maxRecDepth 100000 in
set_option maxHeartbeats 4000000 in
theorem bk_M_meets_2 (l : Launch) (D : va_G) (ad : Nat → Nat) (ca : Nat → ClassId) {V : zV Int32} {ex : va_W} (hX : zIs V l b_M_meets R_M zTT (zKK D ca) D zcl (zty ca) 4 (zrm 0 0)) (hR : zRi V b_M_meets (zwM ad ca) ex) : ∀ (n : Nat) (x1 : Int64) (x3 : Int32) (σ : zS), zJ V (fn_M_meets_2 n x1 x3 σ) (zwM ad ca σ ++ ex) 2 [(0, .ref (ad 30)), (1, .long x1), (3, .int x3)] [] := by
  intro n
  induction n with
  | zero => intros; exact z_none
  | succ n ih =>
    intro x1 x3 σ
    show zJ V (if x3 < (σ.1 701 0) then zgd (zin x3 32) (if (lg_cmp (σ.2 35 x3.toNatClampNeg) x1) = 0 then if x3 < (σ.1 701 0) then some (x3, σ) else some ((-1 : Int32), σ) else fn_M_meets_2 n x1 (x3 + 1) σ) else if x3 < (σ.1 701 0) then some (x3, σ) else some ((-1 : Int32), σ)) _ _ _ _
    refine z_iload_n (i := 3) hX d_M_meets_2 rfl rfl ?_
    refine z_aload_n (i := 0) hX d_M_meets_3 rfl rfl ?_
    refine z_get (C := R_M) (T := F_M) (N := 27) hX in_M 0 rfl rfl 1 (by decide) w_field_M_76_M_1 rfl d_M_meets_4 ?_
    refine z_icmp_ge (tgt := 27) hX d_M_meets_7 (by decide) (fun c7 => ?_) (fun c7 => ?_)
    · refine z_aload_n (i := 0) hX d_M_meets_10 rfl rfl ?_
      refine z_get (C := R_M) (T := F_M) (N := 27) hX in_M 0 rfl rfl 7 (by decide) w_field_M_24_M_7 rfl d_M_meets_11 ?_
      refine z_iload_n (i := 3) hX d_M_meets_14 rfl rfl ?_
      refine z_lald hX 5 25 rfl rfl d_M_meets_15 ?_
      refine z_lload_n (i := 1) hX d_M_meets_16 rfl rfl ?_
      refine z_lcmp hX d_M_meets_17 ?_
      refine z_if_eq (tgt := 27) hX d_M_meets_18 (by decide) (fun c18 => ?_) (fun c18 => ?_)
      · refine z_iload_n (i := 3) hX d_M_meets_27 rfl rfl ?_
        refine z_aload_n (i := 0) hX d_M_meets_28 rfl rfl ?_
        refine z_get (C := R_M) (T := F_M) (N := 27) hX in_M 0 rfl rfl 1 (by decide) w_field_M_76_M_1 rfl d_M_meets_29 ?_
        refine z_icmp_ge (tgt := 39) hX d_M_meets_32 (by decide) (fun c32 => ?_) (fun c32 => ?_)
        · refine z_iload_n (i := 3) hX d_M_meets_35 rfl rfl ?_
          refine z_goto (tgt := 40) hX d_M_meets_36 (by decide) ?_
          exact z_iret hR d_M_meets_40
        · refine z_iconst (v := -1) hX d_M_meets_39 (by decide) ?_
          exact z_iret hR d_M_meets_40
      · refine z_iinc (v := x3 + 1) (lv2 := [(3, .int (x3 + 1)), (0, .ref (ad 30)), (1, .long x1)]) hX d_M_meets_21 2 rfl (by first | rfl | decide) (by decide) rfl ?_
        refine z_goto (tgt := 2) hX d_M_meets_24 (by decide) ?_
        refine z_lv hX [1, 2, 0] (lv2 := [(0, .ref (ad 30)), (1, .long x1), (3, .int (x3 + 1))]) rfl ?_
        exact ih _ _ _
    · refine z_iload_n (i := 3) hX d_M_meets_27 rfl rfl ?_
      refine z_aload_n (i := 0) hX d_M_meets_28 rfl rfl ?_
      refine z_get (C := R_M) (T := F_M) (N := 27) hX in_M 0 rfl rfl 1 (by decide) w_field_M_76_M_1 rfl d_M_meets_29 ?_
      refine z_icmp_ge (tgt := 39) hX d_M_meets_32 (by decide) (fun c32 => ?_) (fun c32 => ?_)
      · refine z_iload_n (i := 3) hX d_M_meets_35 rfl rfl ?_
        refine z_goto (tgt := 40) hX d_M_meets_36 (by decide) ?_
        exact z_iret hR d_M_meets_40
      · refine z_iconst (v := -1) hX d_M_meets_39 (by decide) ?_
        exact z_iret hR d_M_meets_40
def fn_M_meets (x1 : Int64) (σ : zS) : Option (Int32 × zS) := fn_M_meets_2 100 x1 (0 : Int32) σ
set_option maxRecDepth 100000 in
set_option maxHeartbeats 4000000 in
theorem ct_M_meets (l : Launch) (D : va_G) (ad : Nat → Nat) (ca : Nat → ClassId) (x1 : Int64) (σ : zS) : zC zemI l y_M_meets (Cond.code y_M_meets b_M_meets 4 (some .int) :: zTT) (zrm 0 0) D zcl (zKK D ca) (zwM ad ca) σ [.ref (ad 30), .long x1] (fn_M_meets x1 σ) := by
  refine zmk_i (tys := zty ca) (by decide) (zKK_m D ca) (fun _ h => h.1) (Nat.le_of_ble_eq_true rfl) (fun V ex hX hR => ?_)
  show zJ V (fn_M_meets_2 100 x1 (0 : Int32) σ) (zwM ad ca σ ++ ex) 0 [(0, .ref (ad 30)), (1, .long x1)] []
  refine z_iconst (v := 0) hX d_M_meets_0 (by decide) ?_
  refine z_istore_n (i := 3) (lv2 := [(3, .int (0 : Int32)), (0, .ref (ad 30)), (1, .long x1)]) hX d_M_meets_1 rfl (by decide) rfl ?_
  refine z_lv hX [1, 2, 0] (lv2 := [(0, .ref (ad 30)), (1, .long x1), (3, .int (0 : Int32))]) rfl ?_
  exact bk_M_meets_2 l D ad ca hX hR 100 _ _ _
