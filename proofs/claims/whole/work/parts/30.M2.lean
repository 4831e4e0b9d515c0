def fn_M_goAlong_37 (k12 : Int32 → zS → Option (Unit × zS)) (k28 : Int32 → Int32 → zS → Option (Unit × zS)) : Nat → Int32 → Int32 → Int32 → zS → Option (Unit × zS)
  | 0, _, _, _, _ => none
  | n + 1, x3, x4, x5, σ => zgd (zin x4 32) (zgd (zin (σ.1 48 x4.toNatClampNeg) 32) (if x5 < (σ.1 44 (σ.1 48 x4.toNatClampNeg).toNatClampNeg) then zgd (zin x4 32) (zgd (zin (((6 : Int32) * (σ.1 48 x4.toNatClampNeg)) + x5) 192) (zb (fn_M_meets (σ.2 36 (((6 : Int32) * (σ.1 48 x4.toNatClampNeg)) + x5).toNatClampNeg) σ) (fun r73 s73 => if r73 = (-1 : Int32) then fn_M_goAlong_37 k12 k28 n x3 x4 (x5 + 1) s73 else zb (fn_M_come r73 s73) (fun r87 s87 => fn_M_goAlong_37 k12 k28 n x3 x4 (x5 + 1) s87)))) else k28 x3 (x4 + 1) σ))
set_option maxRecDepth 100000 in
set_option maxHeartbeats 4000000 in
theorem bk_M_goAlong_37 (l : Launch) (D : va_G) (ad : Nat → Nat) (ca : Nat → ClassId) {V : zV Unit} {ex : va_W} (hX : zIs V l b_M_goAlong R_M zTT (zKK D ca) D zcl (zty ca) 7 (zrm 1 23)) (hR : zRv V b_M_goAlong (zwM ad ca) ex) (k12 : Int32 → zS → Option (Unit × zS)) (hk12 : ∀ (z2 : Int32) (σ : zS), zJ V (k12 z2 σ) (zwM ad ca σ ++ ex) 12 [(0, .ref (ad 30)), (2, .int z2)] []) (k28 : Int32 → Int32 → zS → Option (Unit × zS)) (hk28 : ∀ (z3 : Int32) (z4 : Int32) (σ : zS), zJ V (k28 z3 z4 σ) (zwM ad ca σ ++ ex) 28 [(0, .ref (ad 30)), (3, .int z3), (4, .int z4)] []) : ∀ (n : Nat) (x3 : Int32) (x4 : Int32) (x5 : Int32) (σ : zS), zJ V (fn_M_goAlong_37 k12 k28 n x3 x4 x5 σ) (zwM ad ca σ ++ ex) 37 [(0, .ref (ad 30)), (3, .int x3), (4, .int x4), (5, .int x5)] [] := by
  intro n
  induction n with
  | zero => intros; exact z_none
  | succ n ih =>
    intro x3 x4 x5 σ
    show zJ V (zgd (zin x4 32) (zgd (zin (σ.1 48 x4.toNatClampNeg) 32) (if x5 < (σ.1 44 (σ.1 48 x4.toNatClampNeg).toNatClampNeg) then zgd (zin x4 32) (zgd (zin (((6 : Int32) * (σ.1 48 x4.toNatClampNeg)) + x5) 192) (zb (fn_M_meets (σ.2 36 (((6 : Int32) * (σ.1 48 x4.toNatClampNeg)) + x5).toNatClampNeg) σ) (fun r73 s73 => if r73 = (-1 : Int32) then fn_M_goAlong_37 k12 k28 n x3 x4 (x5 + 1) s73 else zb (fn_M_come r73 s73) (fun r87 s87 => fn_M_goAlong_37 k12 k28 n x3 x4 (x5 + 1) s87)))) else k28 x3 (x4 + 1) σ))) _ _ _ _
    refine z_iload (i := 5) hX d_M_goAlong_37 rfl ?_
    refine z_aload_n (i := 0) hX d_M_goAlong_39 rfl rfl ?_
    refine z_get (C := R_M) (T := F_M) (N := 27) hX in_M 0 rfl rfl 16 (by decide) w_field_M_51_M_16 rfl d_M_goAlong_40 ?_
    refine z_aload_n (i := 0) hX d_M_goAlong_43 rfl rfl ?_
    refine z_get (C := R_M) (T := F_M) (N := 27) hX in_M 0 rfl rfl 24 (by decide) w_field_M_67_M_24 rfl d_M_goAlong_44 ?_
    refine z_iload (i := 4) hX d_M_goAlong_47 rfl ?_
    refine z_iald hX 18 38 rfl rfl d_M_goAlong_49 ?_
    refine z_iald hX 14 34 rfl rfl d_M_goAlong_50 ?_
    refine z_icmp_ge (tgt := 96) hX d_M_goAlong_51 (by decide) (fun c51 => ?_) (fun c51 => ?_)
    · refine z_aload_n (i := 0) hX d_M_goAlong_54 rfl rfl ?_
      refine z_aload_n (i := 0) hX d_M_goAlong_55 rfl rfl ?_
      refine z_get (C := R_M) (T := F_M) (N := 27) hX in_M 0 rfl rfl 8 (by decide) w_field_M_27_M_8 rfl d_M_goAlong_56 ?_
      refine z_bipush (v := 6) hX d_M_goAlong_59 (by decide) ?_
      refine z_aload_n (i := 0) hX d_M_goAlong_61 rfl rfl ?_
      refine z_get (C := R_M) (T := F_M) (N := 27) hX in_M 0 rfl rfl 24 (by decide) w_field_M_67_M_24 rfl d_M_goAlong_62 ?_
      refine z_iload (i := 4) hX d_M_goAlong_65 rfl ?_
      refine z_iald hX 18 38 rfl rfl d_M_goAlong_67 ?_
      refine z_imul hX d_M_goAlong_68 ?_
      refine z_iload (i := 5) hX d_M_goAlong_69 rfl ?_
      refine z_iadd hX d_M_goAlong_71 ?_
      refine z_lald hX 6 26 rfl rfl d_M_goAlong_72 ?_
      refine z_callVi (wl := zwM ad ca) (C := R_M) (n := 1) (rest := []) hX [.long (σ.2 36 (((6 : Int32) * (σ.1 48 x4.toNatClampNeg)) + x5).toNatClampNeg)] (ct_M_meets l D ad ca (σ.2 36 (((6 : Int32) * (σ.1 48 x4.toNatClampNeg)) + x5).toNatClampNeg) σ) gV_M_113 ⟨rfl, rfl⟩ ⟨by decide, by decide⟩ (by decide +kernel) rfl 0 rfl rfl rfl rfl (Nat.le_of_ble_eq_true rfl) d_M_goAlong_73 (fun r73 s73 => ?_)
      refine z_istore (i := 6) (lv2 := [(6, .int r73), (0, .ref (ad 30)), (3, .int x3), (4, .int x4), (5, .int x5)]) hX d_M_goAlong_76 (by decide) rfl ?_
      refine z_iload (i := 6) hX d_M_goAlong_78 rfl ?_
      refine z_iconst (v := -1) hX d_M_goAlong_80 (by decide) ?_
      refine z_icmp_eq (tgt := 90) hX d_M_goAlong_81 (by decide) (fun c81 => ?_) (fun c81 => ?_)
      · refine z_iinc (v := x5 + 1) (lv2 := [(5, .int (x5 + 1)), (6, .int r73), (0, .ref (ad 30)), (3, .int x3), (4, .int x4)]) hX d_M_goAlong_90 4 rfl (by first | rfl | decide) (by decide) rfl ?_
        refine z_goto (tgt := 37) hX d_M_goAlong_93 (by decide) ?_
        refine z_lv hX [2, 3, 4, 0] (lv2 := [(0, .ref (ad 30)), (3, .int x3), (4, .int x4), (5, .int (x5 + 1))]) rfl ?_
        exact ih _ _ _ _
      · refine z_aload_n (i := 0) hX d_M_goAlong_84 rfl rfl ?_
        refine z_iload (i := 6) hX d_M_goAlong_85 rfl ?_
        refine z_callVv (wl := zwM ad ca) (C := R_M) (n := 1) (rest := []) hX [.int r73] (ct_M_come l D ad ca r73 s73) gV_M_109 ⟨rfl, rfl⟩ ⟨by decide, by decide⟩ (by decide +kernel) rfl 0 rfl rfl rfl rfl (Nat.le_of_ble_eq_true rfl) d_M_goAlong_87 (fun r87 s87 => ?_)
        refine z_iinc (v := x5 + 1) (lv2 := [(5, .int (x5 + 1)), (6, .int r73), (0, .ref (ad 30)), (3, .int x3), (4, .int x4)]) hX d_M_goAlong_90 4 rfl (by first | rfl | decide) (by decide) rfl ?_
        refine z_goto (tgt := 37) hX d_M_goAlong_93 (by decide) ?_
        refine z_lv hX [2, 3, 4, 0] (lv2 := [(0, .ref (ad 30)), (3, .int x3), (4, .int x4), (5, .int (x5 + 1))]) rfl ?_
        exact ih _ _ _ _
    · refine z_iinc (v := x4 + 1) (lv2 := [(4, .int (x4 + 1)), (0, .ref (ad 30)), (3, .int x3), (5, .int x5)]) hX d_M_goAlong_96 2 rfl (by first | rfl | decide) (by decide) rfl ?_
      refine z_goto (tgt := 28) hX d_M_goAlong_99 (by decide) ?_
      refine z_lv hX [1, 2, 0] (lv2 := [(0, .ref (ad 30)), (3, .int x3), (4, .int (x4 + 1))]) rfl ?_
      exact hk28 _ _ _
def fn_M_goAlong_28 (k12 : Int32 → zS → Option (Unit × zS)) : Nat → Int32 → Int32 → zS → Option (Unit × zS)
  | 0, _, _, _ => none
  | n + 1, x3, x4, σ => if x4 < x3 then fn_M_goAlong_37 k12 (fn_M_goAlong_28 k12 n) 100 x3 x4 (0 : Int32) σ else k12 x3 σ
set_option maxRecDepth 100000 in
set_option maxHeartbeats 4000000 in
theorem bk_M_goAlong_28 (l : Launch) (D : va_G) (ad : Nat → Nat) (ca : Nat → ClassId) {V : zV Unit} {ex : va_W} (hX : zIs V l b_M_goAlong R_M zTT (zKK D ca) D zcl (zty ca) 7 (zrm 1 23)) (hR : zRv V b_M_goAlong (zwM ad ca) ex) (k12 : Int32 → zS → Option (Unit × zS)) (hk12 : ∀ (z2 : Int32) (σ : zS), zJ V (k12 z2 σ) (zwM ad ca σ ++ ex) 12 [(0, .ref (ad 30)), (2, .int z2)] []) : ∀ (n : Nat) (x3 : Int32) (x4 : Int32) (σ : zS), zJ V (fn_M_goAlong_28 k12 n x3 x4 σ) (zwM ad ca σ ++ ex) 28 [(0, .ref (ad 30)), (3, .int x3), (4, .int x4)] [] := by
  intro n
  induction n with
  | zero => intros; exact z_none
  | succ n ih =>
    intro x3 x4 σ
    show zJ V (if x4 < x3 then fn_M_goAlong_37 k12 (fn_M_goAlong_28 k12 n) 100 x3 x4 (0 : Int32) σ else k12 x3 σ) _ _ _ _
    refine z_iload (i := 4) hX d_M_goAlong_28 rfl ?_
    refine z_iload_n (i := 3) hX d_M_goAlong_30 rfl rfl ?_
    refine z_icmp_ge (tgt := 102) hX d_M_goAlong_31 (by decide) (fun c31 => ?_) (fun c31 => ?_)
    · refine z_iconst (v := 0) hX d_M_goAlong_34 (by decide) ?_
      refine z_istore (i := 5) (lv2 := [(5, .int (0 : Int32)), (0, .ref (ad 30)), (3, .int x3), (4, .int x4)]) hX d_M_goAlong_35 (by decide) rfl ?_
      refine z_lv hX [1, 2, 3, 0] (lv2 := [(0, .ref (ad 30)), (3, .int x3), (4, .int x4), (5, .int (0 : Int32))]) rfl ?_
      exact bk_M_goAlong_37 l D ad ca hX hR k12 hk12 (fn_M_goAlong_28 k12 n) ih 100 _ _ _ _
    · refine z_iload_n (i := 3) hX d_M_goAlong_102 rfl rfl ?_
      refine z_istore_n (i := 2) (lv2 := [(2, .int x3), (0, .ref (ad 30)), (3, .int x3), (4, .int x4)]) hX d_M_goAlong_103 rfl (by decide) rfl ?_
      refine z_goto (tgt := 12) hX d_M_goAlong_104 (by decide) ?_
      refine z_lv hX [1, 0] (lv2 := [(0, .ref (ad 30)), (2, .int x3)]) rfl ?_
      exact hk12 _ _
def fn_M_goAlong_12 : Nat → Int32 → zS → Option (Unit × zS)
  | 0, _, _ => none
  | n + 1, x2, σ => if x2 < (σ.1 721 0) then fn_M_goAlong_28 (fn_M_goAlong_12 n) 100 (σ.1 721 0) x2 σ else some ((), σ)
set_option maxRecDepth 100000 in
set_option maxHeartbeats 4000000 in
theorem bk_M_goAlong_12 (l : Launch) (D : va_G) (ad : Nat → Nat) (ca : Nat → ClassId) {V : zV Unit} {ex : va_W} (hX : zIs V l b_M_goAlong R_M zTT (zKK D ca) D zcl (zty ca) 7 (zrm 1 23)) (hR : zRv V b_M_goAlong (zwM ad ca) ex) : ∀ (n : Nat) (x2 : Int32) (σ : zS), zJ V (fn_M_goAlong_12 n x2 σ) (zwM ad ca σ ++ ex) 12 [(0, .ref (ad 30)), (2, .int x2)] [] := by
  intro n
  induction n with
  | zero => intros; exact z_none
  | succ n ih =>
    intro x2 σ
    show zJ V (if x2 < (σ.1 721 0) then fn_M_goAlong_28 (fn_M_goAlong_12 n) 100 (σ.1 721 0) x2 σ else some ((), σ)) _ _ _ _
    refine z_iload_n (i := 2) hX d_M_goAlong_12 rfl rfl ?_
    refine z_aload_n (i := 0) hX d_M_goAlong_13 rfl rfl ?_
    refine z_get (C := R_M) (T := F_M) (N := 27) hX in_M 0 rfl rfl 21 (by decide) w_field_M_106_M_21 rfl d_M_goAlong_14 ?_
    refine z_icmp_ge (tgt := 107) hX d_M_goAlong_17 (by decide) (fun c17 => ?_) (fun c17 => ?_)
    · refine z_aload_n (i := 0) hX d_M_goAlong_20 rfl rfl ?_
      refine z_get (C := R_M) (T := F_M) (N := 27) hX in_M 0 rfl rfl 21 (by decide) w_field_M_106_M_21 rfl d_M_goAlong_21 ?_
      refine z_istore_n (i := 3) (lv2 := [(3, .int (σ.1 721 0)), (0, .ref (ad 30)), (2, .int x2)]) hX d_M_goAlong_24 rfl (by decide) rfl ?_
      refine z_iload_n (i := 2) hX d_M_goAlong_25 rfl rfl ?_
      refine z_istore (i := 4) (lv2 := [(4, .int x2), (3, .int (σ.1 721 0)), (0, .ref (ad 30)), (2, .int x2)]) hX d_M_goAlong_26 (by decide) rfl ?_
      refine z_lv hX [2, 1, 0] (lv2 := [(0, .ref (ad 30)), (3, .int (σ.1 721 0)), (4, .int x2)]) rfl ?_
      exact bk_M_goAlong_28 l D ad ca hX hR (fn_M_goAlong_12 n) ih 100 _ _ _
    · exact z_vret hR d_M_goAlong_107
def fn_M_goAlong (x1 : Int32) (σ : zS) : Option (Unit × zS) := zst (zF σ 721 (0 : Int32)) (fun s2 => zb (fn_M_come x1 s2) (fun r7 s7 => fn_M_goAlong_12 100 (0 : Int32) s7))
set_option maxRecDepth 100000 in
set_option maxHeartbeats 4000000 in
theorem ct_M_goAlong (l : Launch) (D : va_G) (ad : Nat → Nat) (ca : Nat → ClassId) (x1 : Int32) (σ : zS) : zC zemV l y_M_goAlong (Cond.code y_M_goAlong b_M_goAlong 7 none :: zTT) (zrm 1 23) D zcl (zKK D ca) (zwM ad ca) σ [.ref (ad 30), .int x1] (fn_M_goAlong x1 σ) := by
  refine zmk_v (tys := zty ca) (by decide) (zKK_m D ca) (fun _ h => h.1) (Nat.le_of_ble_eq_true rfl) (fun V ex hX hR => ?_)
  show zJ V (zst (zF σ 721 (0 : Int32)) (fun s2 => zb (fn_M_come x1 s2) (fun r7 s7 => fn_M_goAlong_12 100 (0 : Int32) s7))) (zwM ad ca σ ++ ex) 0 [(0, .ref (ad 30)), (1, .int x1)] []
  refine z_aload_n (i := 0) hX d_M_goAlong_0 rfl rfl ?_
  refine z_iconst (v := 0) hX d_M_goAlong_1 (by decide) ?_
  refine z_put (C := R_M) (T := F_M) (N := 27) (wl := zwM ad ca) (ex := ex) (x9 := (zF σ 721 (0 : Int32))) hX in_M t_M t_M_ok n_M 0 rfl rfl 21 (by decide) w_field_M_106_M_21 rfl rfl rfl (Nat.le_of_ble_eq_true rfl) rfl d_M_goAlong_2 (fun s2 => ?_)
  refine z_aload_n (i := 0) hX d_M_goAlong_5 rfl rfl ?_
  refine z_iload_n (i := 1) hX d_M_goAlong_6 rfl rfl ?_
  refine z_callVv (wl := zwM ad ca) (C := R_M) (n := 1) (rest := []) hX [.int x1] (ct_M_come l D ad ca x1 s2) gV_M_109 ⟨rfl, rfl⟩ ⟨by decide, by decide⟩ (by decide +kernel) rfl 0 rfl rfl rfl rfl (Nat.le_of_ble_eq_true rfl) d_M_goAlong_7 (fun r7 s7 => ?_)
  refine z_iconst (v := 0) hX d_M_goAlong_10 (by decide) ?_
  refine z_istore_n (i := 2) (lv2 := [(2, .int (0 : Int32)), (0, .ref (ad 30)), (1, .int x1)]) hX d_M_goAlong_11 rfl (by decide) rfl ?_
  refine z_lv hX [1, 0] (lv2 := [(0, .ref (ad 30)), (2, .int (0 : Int32))]) rfl ?_
  exact bk_M_goAlong_12 l D ad ca hX hR 100 _ _
def fn_M_closure_25 : Nat → Int32 → zS → Option (Int32 × zS)
  | 0, _, _ => none
  | n + 1, x2, σ => if x2 < (σ.1 721 0) then zgd (zin x2 32) (zgd (zin x2 32) (zst (zI σ 50 x2.toNatClampNeg (σ.1 48 x2.toNatClampNeg)) (fun s44 => fn_M_closure_25 n (x2 + 1) s44))) else some (σ.1 723 0, σ)
set_option maxRecDepth 100000 in
set_option maxHeartbeats 4000000 in
theorem bk_M_closure_25 (l : Launch) (D : va_G) (ad : Nat → Nat) (ca : Nat → ClassId) {V : zV Int32} {ex : va_W} (hX : zIs V l b_M_closure R_M zTT (zKK D ca) D zcl (zty ca) 3 (zrm 2 49)) (hR : zRi V b_M_closure (zwM ad ca) ex) : ∀ (n : Nat) (x2 : Int32) (σ : zS), zJ V (fn_M_closure_25 n x2 σ) (zwM ad ca σ ++ ex) 25 [(0, .ref (ad 30)), (2, .int x2)] [] := by
  intro n
  induction n with
  | zero => intros; exact z_none
  | succ n ih =>
    intro x2 σ
    show zJ V (if x2 < (σ.1 721 0) then zgd (zin x2 32) (zgd (zin x2 32) (zst (zI σ 50 x2.toNatClampNeg (σ.1 48 x2.toNatClampNeg)) (fun s44 => fn_M_closure_25 n (x2 + 1) s44))) else some (σ.1 723 0, σ)) _ _ _ _
    refine z_iload_n (i := 2) hX d_M_closure_25 rfl rfl ?_
    refine z_aload_n (i := 0) hX d_M_closure_26 rfl rfl ?_
    refine z_get (C := R_M) (T := F_M) (N := 27) hX in_M 0 rfl rfl 21 (by decide) w_field_M_106_M_21 rfl d_M_closure_27 ?_
    refine z_icmp_ge (tgt := 51) hX d_M_closure_30 (by decide) (fun c30 => ?_) (fun c30 => ?_)
    · refine z_aload_n (i := 0) hX d_M_closure_33 rfl rfl ?_
      refine z_get (C := R_M) (T := F_M) (N := 27) hX in_M 0 rfl rfl 26 (by decide) w_field_M_73_M_26 rfl d_M_closure_34 ?_
      refine z_iload_n (i := 2) hX d_M_closure_37 rfl rfl ?_
      refine z_aload_n (i := 0) hX d_M_closure_38 rfl rfl ?_
      refine z_get (C := R_M) (T := F_M) (N := 27) hX in_M 0 rfl rfl 24 (by decide) w_field_M_67_M_24 rfl d_M_closure_39 ?_
      refine z_iload_n (i := 2) hX d_M_closure_42 rfl rfl ?_
      refine z_iald hX 18 38 rfl rfl d_M_closure_43 ?_
      refine z_iast (wl := zwM ad ca) (ex := ex) (x9 := (zI σ 50 x2.toNatClampNeg (σ.1 48 x2.toNatClampNeg))) hX 20 40 rfl rfl rfl d_M_closure_44 (fun s44 => ?_)
      refine z_iinc (v := x2 + 1) (lv2 := [(2, .int (x2 + 1)), (0, .ref (ad 30))]) hX d_M_closure_45 1 rfl (by first | rfl | decide) (by decide) rfl ?_
      refine z_goto (tgt := 25) hX d_M_closure_48 (by decide) ?_
      refine z_lv hX [1, 0] (lv2 := [(0, .ref (ad 30)), (2, .int (x2 + 1))]) rfl ?_
      exact ih _ _
    · refine z_aload_n (i := 0) hX d_M_closure_51 rfl rfl ?_
      refine z_get (C := R_M) (T := F_M) (N := 27) hX in_M 0 rfl rfl 23 (by decide) w_field_M_120_M_23 rfl d_M_closure_52 ?_
      exact z_iret hR d_M_closure_55
def fn_M_closure (x1 : Int32) (σ : zS) : Option (Int32 × zS) := zb (fn_M_isArtefact x1 σ) (fun r2 s2 => if r2 = 0 then some ((-1 : Int32), s2) else zb (fn_M_goAlong x1 s2) (fun r12 s12 => zst (zF s12 723 (s12.1 721 0)) (fun s20 => fn_M_closure_25 100 (0 : Int32) s20)))
set_option maxRecDepth 100000 in
set_option maxHeartbeats 4000000 in
theorem ct_M_closure (l : Launch) (D : va_G) (ad : Nat → Nat) (ca : Nat → ClassId) (x1 : Int32) (σ : zS) : zC zemI l y_M_closure (Cond.code y_M_closure b_M_closure 3 (some .int) :: zTT) (zrm 2 49) D zcl (zKK D ca) (zwM ad ca) σ [.ref (ad 30), .int x1] (fn_M_closure x1 σ) := by
  refine zmk_i (tys := zty ca) (by decide) (zKK_m D ca) (fun _ h => h.1) (Nat.le_of_ble_eq_true rfl) (fun V ex hX hR => ?_)
  show zJ V (zb (fn_M_isArtefact x1 σ) (fun r2 s2 => if r2 = 0 then some ((-1 : Int32), s2) else zb (fn_M_goAlong x1 s2) (fun r12 s12 => zst (zF s12 723 (s12.1 721 0)) (fun s20 => fn_M_closure_25 100 (0 : Int32) s20)))) (zwM ad ca σ ++ ex) 0 [(0, .ref (ad 30)), (1, .int x1)] []
  refine z_aload_n (i := 0) hX d_M_closure_0 rfl rfl ?_
  refine z_iload_n (i := 1) hX d_M_closure_1 rfl rfl ?_
  refine z_callVi (wl := zwM ad ca) (C := R_M) (n := 1) (rest := []) hX [.int x1] (ct_M_isArtefact l D ad ca x1 σ) gV_M_92 ⟨rfl, rfl⟩ ⟨by decide, by decide⟩ (by decide +kernel) rfl 0 rfl rfl rfl rfl (Nat.le_of_ble_eq_true rfl) d_M_closure_2 (fun r2 s2 => ?_)
  refine z_if_ne (tgt := 10) hX d_M_closure_5 (by decide) (fun c5 => ?_) (fun c5 => ?_)
  · refine z_iconst (v := -1) hX d_M_closure_8 (by decide) ?_
    exact z_iret hR d_M_closure_9
  · refine z_aload_n (i := 0) hX d_M_closure_10 rfl rfl ?_
    refine z_iload_n (i := 1) hX d_M_closure_11 rfl rfl ?_
    refine z_callVv (wl := zwM ad ca) (C := R_M) (n := 1) (rest := []) hX [.int x1] (ct_M_goAlong l D ad ca x1 s2) gV_M_117 ⟨rfl, rfl⟩ ⟨by decide, by decide⟩ (by decide +kernel) rfl 0 rfl rfl rfl rfl (Nat.le_of_ble_eq_true rfl) d_M_closure_12 (fun r12 s12 => ?_)
    refine z_aload_n (i := 0) hX d_M_closure_15 rfl rfl ?_
    refine z_aload_n (i := 0) hX d_M_closure_16 rfl rfl ?_
    refine z_get (C := R_M) (T := F_M) (N := 27) hX in_M 0 rfl rfl 21 (by decide) w_field_M_106_M_21 rfl d_M_closure_17 ?_
    refine z_put (C := R_M) (T := F_M) (N := 27) (wl := zwM ad ca) (ex := ex) (x9 := (zF s12 723 (s12.1 721 0))) hX in_M t_M t_M_ok n_M 0 rfl rfl 23 (by decide) w_field_M_120_M_23 rfl rfl rfl (Nat.le_of_ble_eq_true rfl) rfl d_M_closure_20 (fun s20 => ?_)
    refine z_iconst (v := 0) hX d_M_closure_23 (by decide) ?_
    refine z_istore_n (i := 2) (lv2 := [(2, .int (0 : Int32)), (0, .ref (ad 30)), (1, .int x1)]) hX d_M_closure_24 rfl (by decide) rfl ?_
    refine z_lv hX [1, 0] (lv2 := [(0, .ref (ad 30)), (2, .int (0 : Int32))]) rfl ?_
    exact bk_M_closure_25 l D ad ca hX hR 100 _ _
def fn_M_at (x1 : Int32) (σ : zS) : Option (Int32 × zS) := if x1 < 0 then some ((-1 : Int32), σ) else if x1 < (σ.1 723 0) then zgd (zin x1 32) (some (σ.1 50 x1.toNatClampNeg, σ)) else some ((-1 : Int32), σ)
set_option maxRecDepth 100000 in
set_option maxHeartbeats 4000000 in
theorem ct_M_at (l : Launch) (D : va_G) (ad : Nat → Nat) (ca : Nat → ClassId) (x1 : Int32) (σ : zS) : zC zemI l y_M_at (Cond.code y_M_at b_M_at 2 (some .int) :: zTT) (zrm 0 0) D zcl (zKK D ca) (zwM ad ca) σ [.ref (ad 30), .int x1] (fn_M_at x1 σ) := by
  refine zmk_i (tys := zty ca) (by decide) (zKK_m D ca) (fun _ h => h.1) (Nat.le_of_ble_eq_true rfl) (fun V ex hX hR => ?_)
  show zJ V (if x1 < 0 then some ((-1 : Int32), σ) else if x1 < (σ.1 723 0) then zgd (zin x1 32) (some (σ.1 50 x1.toNatClampNeg, σ)) else some ((-1 : Int32), σ)) (zwM ad ca σ ++ ex) 0 [(0, .ref (ad 30)), (1, .int x1)] []
  refine z_iload_n (i := 1) hX d_M_at_0 rfl rfl ?_
  refine z_if_lt (tgt := 21) hX d_M_at_1 (by decide) (fun c1 => ?_) (fun c1 => ?_)
  · refine z_iconst (v := -1) hX d_M_at_21 (by decide) ?_
    exact z_iret hR d_M_at_22
  · refine z_iload_n (i := 1) hX d_M_at_4 rfl rfl ?_
    refine z_aload_n (i := 0) hX d_M_at_5 rfl rfl ?_
    refine z_get (C := R_M) (T := F_M) (N := 27) hX in_M 0 rfl rfl 23 (by decide) w_field_M_120_M_23 rfl d_M_at_6 ?_
    refine z_icmp_ge (tgt := 21) hX d_M_at_9 (by decide) (fun c9 => ?_) (fun c9 => ?_)
    · refine z_aload_n (i := 0) hX d_M_at_12 rfl rfl ?_
      refine z_get (C := R_M) (T := F_M) (N := 27) hX in_M 0 rfl rfl 26 (by decide) w_field_M_73_M_26 rfl d_M_at_13 ?_
      refine z_iload_n (i := 1) hX d_M_at_16 rfl rfl ?_
      refine z_iald hX 20 40 rfl rfl d_M_at_17 ?_
      refine z_goto (tgt := 22) hX d_M_at_18 (by decide) ?_
      exact z_iret hR d_M_at_22
    · refine z_iconst (v := -1) hX d_M_at_21 (by decide) ?_
      exact z_iret hR d_M_at_22
def fn_M_holds_43 (k6 : Int64 → Int32 → Int32 → Int32 → zS → Option (Int32 × zS)) (k31 : Int64 → Int32 → Int32 → Int32 → Int32 → Int32 → zS → Option (Int32 × zS)) : Nat → Int64 → Int32 → Int32 → Int32 → Int32 → Int32 → Int32 → zS → Option (Int32 × zS)
  | 0, _, _, _, _, _, _, _, _ => none
  | n + 1, x1, x3, x4, x5, x6, x7, x8, σ => zgd (zin x7 32) (zgd (zin (σ.1 48 x7.toNatClampNeg) 32) (if x8 < (σ.1 42 (σ.1 48 x7.toNatClampNeg).toNatClampNeg) then if x6 = 0 then zgd (zin x7 32) (zgd (zin (((6 : Int32) * (σ.1 48 x7.toNatClampNeg)) + x8) 192) (zgd (zin (σ.1 43 (((6 : Int32) * (σ.1 48 x7.toNatClampNeg)) + x8).toNatClampNeg) 24) (if (lg_cmp (σ.2 31 (σ.1 43 (((6 : Int32) * (σ.1 48 x7.toNatClampNeg)) + x8).toNatClampNeg).toNatClampNeg) x1) = 0 then fn_M_holds_43 k6 k31 n x1 x3 x4 x5 (1 : Int32) x7 (x8 + 1) σ else fn_M_holds_43 k6 k31 n x1 x3 x4 x5 (0 : Int32) x7 (x8 + 1) σ))) else fn_M_holds_43 k6 k31 n x1 x3 x4 x5 (1 : Int32) x7 (x8 + 1) σ else k31 x1 x3 x4 x5 x6 (x7 + 1) σ))
set_option maxRecDepth 100000 in
set_option maxHeartbeats 4000000 in
theorem bk_M_holds_43 (l : Launch) (D : va_G) (ad : Nat → Nat) (ca : Nat → ClassId) {V : zV Int32} {ex : va_W} (hX : zIs V l b_M_holds R_M zTT (zKK D ca) D zcl (zty ca) 9 (zrm 2 49)) (hR : zRi V b_M_holds (zwM ad ca) ex) (k6 : Int64 → Int32 → Int32 → Int32 → zS → Option (Int32 × zS)) (hk6 : ∀ (z1 : Int64) (z3 : Int32) (z4 : Int32) (z5 : Int32) (σ : zS), zJ V (k6 z1 z3 z4 z5 σ) (zwM ad ca σ ++ ex) 6 [(0, .ref (ad 30)), (1, .long z1), (3, .int z3), (4, .int z4), (5, .int z5)] []) (k31 : Int64 → Int32 → Int32 → Int32 → Int32 → Int32 → zS → Option (Int32 × zS)) (hk31 : ∀ (z1 : Int64) (z3 : Int32) (z4 : Int32) (z5 : Int32) (z6 : Int32) (z7 : Int32) (σ : zS), zJ V (k31 z1 z3 z4 z5 z6 z7 σ) (zwM ad ca σ ++ ex) 31 [(0, .ref (ad 30)), (1, .long z1), (3, .int z3), (4, .int z4), (5, .int z5), (6, .int z6), (7, .int z7)] []) : ∀ (n : Nat) (x1 : Int64) (x3 : Int32) (x4 : Int32) (x5 : Int32) (x6 : Int32) (x7 : Int32) (x8 : Int32) (σ : zS), zJ V (fn_M_holds_43 k6 k31 n x1 x3 x4 x5 x6 x7 x8 σ) (zwM ad ca σ ++ ex) 43 [(0, .ref (ad 30)), (1, .long x1), (3, .int x3), (4, .int x4), (5, .int x5), (6, .int x6), (7, .int x7), (8, .int x8)] [] := by
  intro n
  induction n with
  | zero => intros; exact z_none
  | succ n ih =>
    intro x1 x3 x4 x5 x6 x7 x8 σ
    show zJ V (zgd (zin x7 32) (zgd (zin (σ.1 48 x7.toNatClampNeg) 32) (if x8 < (σ.1 42 (σ.1 48 x7.toNatClampNeg).toNatClampNeg) then if x6 = 0 then zgd (zin x7 32) (zgd (zin (((6 : Int32) * (σ.1 48 x7.toNatClampNeg)) + x8) 192) (zgd (zin (σ.1 43 (((6 : Int32) * (σ.1 48 x7.toNatClampNeg)) + x8).toNatClampNeg) 24) (if (lg_cmp (σ.2 31 (σ.1 43 (((6 : Int32) * (σ.1 48 x7.toNatClampNeg)) + x8).toNatClampNeg).toNatClampNeg) x1) = 0 then fn_M_holds_43 k6 k31 n x1 x3 x4 x5 (1 : Int32) x7 (x8 + 1) σ else fn_M_holds_43 k6 k31 n x1 x3 x4 x5 (0 : Int32) x7 (x8 + 1) σ))) else fn_M_holds_43 k6 k31 n x1 x3 x4 x5 (1 : Int32) x7 (x8 + 1) σ else k31 x1 x3 x4 x5 x6 (x7 + 1) σ))) _ _ _ _
    refine z_iload (i := 8) hX d_M_holds_43 rfl ?_
    refine z_aload_n (i := 0) hX d_M_holds_45 rfl rfl ?_
    refine z_get (C := R_M) (T := F_M) (N := 27) hX in_M 0 rfl rfl 14 (by decide) w_field_M_45_M_14 rfl d_M_holds_46 ?_
    refine z_aload_n (i := 0) hX d_M_holds_49 rfl rfl ?_
    refine z_get (C := R_M) (T := F_M) (N := 27) hX in_M 0 rfl rfl 24 (by decide) w_field_M_67_M_24 rfl d_M_holds_50 ?_
    refine z_iload (i := 7) hX d_M_holds_53 rfl ?_
    refine z_iald hX 18 38 rfl rfl d_M_holds_55 ?_
    refine z_iald hX 12 32 rfl rfl d_M_holds_56 ?_
    refine z_icmp_ge (tgt := 106) hX d_M_holds_57 (by decide) (fun c57 => ?_) (fun c57 => ?_)
    · refine z_iload (i := 6) hX d_M_holds_60 rfl ?_
      refine z_if_ne (tgt := 93) hX d_M_holds_62 (by decide) (fun c62 => ?_) (fun c62 => ?_)
      · refine z_aload_n (i := 0) hX d_M_holds_65 rfl rfl ?_
        refine z_get (C := R_M) (T := F_M) (N := 27) hX in_M 0 rfl rfl 3 (by decide) w_field_M_7_M_3 rfl d_M_holds_66 ?_
        refine z_aload_n (i := 0) hX d_M_holds_69 rfl rfl ?_
        refine z_get (C := R_M) (T := F_M) (N := 27) hX in_M 0 rfl rfl 15 (by decide) w_field_M_48_M_15 rfl d_M_holds_70 ?_
        refine z_bipush (v := 6) hX d_M_holds_73 (by decide) ?_
        refine z_aload_n (i := 0) hX d_M_holds_75 rfl rfl ?_
        refine z_get (C := R_M) (T := F_M) (N := 27) hX in_M 0 rfl rfl 24 (by decide) w_field_M_67_M_24 rfl d_M_holds_76 ?_
        refine z_iload (i := 7) hX d_M_holds_79 rfl ?_
        refine z_iald hX 18 38 rfl rfl d_M_holds_81 ?_
        refine z_imul hX d_M_holds_82 ?_
        refine z_iload (i := 8) hX d_M_holds_83 rfl ?_
        refine z_iadd hX d_M_holds_85 ?_
        refine z_iald hX 13 33 rfl rfl d_M_holds_86 ?_
        refine z_lald hX 1 21 rfl rfl d_M_holds_87 ?_
        refine z_lload_n (i := 1) hX d_M_holds_88 rfl rfl ?_
        refine z_lcmp hX d_M_holds_89 ?_
        refine z_if_ne (tgt := 97) hX d_M_holds_90 (by decide) (fun c90 => ?_) (fun c90 => ?_)
        · refine z_iconst (v := 1) hX d_M_holds_93 (by decide) ?_
          refine z_goto (tgt := 98) hX d_M_holds_94 (by decide) ?_
          refine z_istore (i := 6) (lv2 := [(6, .int (1 : Int32)), (0, .ref (ad 30)), (1, .long x1), (3, .int x3), (4, .int x4), (5, .int x5), (7, .int x7), (8, .int x8)]) hX d_M_holds_98 (by decide) rfl ?_
          refine z_iinc (v := x8 + 1) (lv2 := [(8, .int (x8 + 1)), (6, .int (1 : Int32)), (0, .ref (ad 30)), (1, .long x1), (3, .int x3), (4, .int x4), (5, .int x5), (7, .int x7)]) hX d_M_holds_100 7 rfl (by first | rfl | decide) (by decide) rfl ?_
          refine z_goto (tgt := 43) hX d_M_holds_103 (by decide) ?_
          refine z_lv hX [2, 3, 4, 5, 6, 1, 7, 0] (lv2 := [(0, .ref (ad 30)), (1, .long x1), (3, .int x3), (4, .int x4), (5, .int x5), (6, .int (1 : Int32)), (7, .int x7), (8, .int (x8 + 1))]) rfl ?_
          exact ih _ _ _ _ _ _ _ _
        · refine z_iconst (v := 0) hX d_M_holds_97 (by decide) ?_
          refine z_istore (i := 6) (lv2 := [(6, .int (0 : Int32)), (0, .ref (ad 30)), (1, .long x1), (3, .int x3), (4, .int x4), (5, .int x5), (7, .int x7), (8, .int x8)]) hX d_M_holds_98 (by decide) rfl ?_
          refine z_iinc (v := x8 + 1) (lv2 := [(8, .int (x8 + 1)), (6, .int (0 : Int32)), (0, .ref (ad 30)), (1, .long x1), (3, .int x3), (4, .int x4), (5, .int x5), (7, .int x7)]) hX d_M_holds_100 7 rfl (by first | rfl | decide) (by decide) rfl ?_
          refine z_goto (tgt := 43) hX d_M_holds_103 (by decide) ?_
          refine z_lv hX [2, 3, 4, 5, 6, 1, 7, 0] (lv2 := [(0, .ref (ad 30)), (1, .long x1), (3, .int x3), (4, .int x4), (5, .int x5), (6, .int (0 : Int32)), (7, .int x7), (8, .int (x8 + 1))]) rfl ?_
          exact ih _ _ _ _ _ _ _ _
      · refine z_iconst (v := 1) hX d_M_holds_93 (by decide) ?_
        refine z_goto (tgt := 98) hX d_M_holds_94 (by decide) ?_
        refine z_istore (i := 6) (lv2 := [(6, .int (1 : Int32)), (0, .ref (ad 30)), (1, .long x1), (3, .int x3), (4, .int x4), (5, .int x5), (7, .int x7), (8, .int x8)]) hX d_M_holds_98 (by decide) rfl ?_
        refine z_iinc (v := x8 + 1) (lv2 := [(8, .int (x8 + 1)), (6, .int (1 : Int32)), (0, .ref (ad 30)), (1, .long x1), (3, .int x3), (4, .int x4), (5, .int x5), (7, .int x7)]) hX d_M_holds_100 7 rfl (by first | rfl | decide) (by decide) rfl ?_
        refine z_goto (tgt := 43) hX d_M_holds_103 (by decide) ?_
        refine z_lv hX [2, 3, 4, 5, 6, 1, 7, 0] (lv2 := [(0, .ref (ad 30)), (1, .long x1), (3, .int x3), (4, .int x4), (5, .int x5), (6, .int (1 : Int32)), (7, .int x7), (8, .int (x8 + 1))]) rfl ?_
        exact ih _ _ _ _ _ _ _ _
    · refine z_iinc (v := x7 + 1) (lv2 := [(7, .int (x7 + 1)), (0, .ref (ad 30)), (1, .long x1), (3, .int x3), (4, .int x4), (5, .int x5), (6, .int x6), (8, .int x8)]) hX d_M_holds_106 6 rfl (by first | rfl | decide) (by decide) rfl ?_
      refine z_goto (tgt := 31) hX d_M_holds_109 (by decide) ?_
      refine z_lv hX [1, 2, 3, 4, 5, 6, 0] (lv2 := [(0, .ref (ad 30)), (1, .long x1), (3, .int x3), (4, .int x4), (5, .int x5), (6, .int x6), (7, .int (x7 + 1))]) rfl ?_
      exact hk31 _ _ _ _ _ _ _
def fn_M_holds_31 (k6 : Int64 → Int32 → Int32 → Int32 → zS → Option (Int32 × zS)) : Nat → Int64 → Int32 → Int32 → Int32 → Int32 → Int32 → zS → Option (Int32 × zS)
  | 0, _, _, _, _, _, _, _ => none
  | n + 1, x1, x3, x4, x5, x6, x7, σ => if x7 < (σ.1 721 0) then fn_M_holds_43 k6 (fn_M_holds_31 k6 n) 100 x1 x3 x4 x5 x6 x7 (0 : Int32) σ else if x6 = 0 then if x6 = 0 then k6 x1 x3 (x4 - (0 : Int32)) (x5 + 1) σ else k6 x1 x3 (x4 - (1 : Int32)) (x5 + 1) σ else if x4 = 0 then some (x5, σ) else if x6 = 0 then k6 x1 x3 (x4 - (0 : Int32)) (x5 + 1) σ else k6 x1 x3 (x4 - (1 : Int32)) (x5 + 1) σ
set_option maxRecDepth 100000 in
set_option maxHeartbeats 4000000 in
theorem bk_M_holds_31 (l : Launch) (D : va_G) (ad : Nat → Nat) (ca : Nat → ClassId) {V : zV Int32} {ex : va_W} (hX : zIs V l b_M_holds R_M zTT (zKK D ca) D zcl (zty ca) 9 (zrm 2 49)) (hR : zRi V b_M_holds (zwM ad ca) ex) (k6 : Int64 → Int32 → Int32 → Int32 → zS → Option (Int32 × zS)) (hk6 : ∀ (z1 : Int64) (z3 : Int32) (z4 : Int32) (z5 : Int32) (σ : zS), zJ V (k6 z1 z3 z4 z5 σ) (zwM ad ca σ ++ ex) 6 [(0, .ref (ad 30)), (1, .long z1), (3, .int z3), (4, .int z4), (5, .int z5)] []) : ∀ (n : Nat) (x1 : Int64) (x3 : Int32) (x4 : Int32) (x5 : Int32) (x6 : Int32) (x7 : Int32) (σ : zS), zJ V (fn_M_holds_31 k6 n x1 x3 x4 x5 x6 x7 σ) (zwM ad ca σ ++ ex) 31 [(0, .ref (ad 30)), (1, .long x1), (3, .int x3), (4, .int x4), (5, .int x5), (6, .int x6), (7, .int x7)] [] := by
  intro n
  induction n with
  | zero => intros; exact z_none
  | succ n ih =>
    intro x1 x3 x4 x5 x6 x7 σ
    show zJ V (if x7 < (σ.1 721 0) then fn_M_holds_43 k6 (fn_M_holds_31 k6 n) 100 x1 x3 x4 x5 x6 x7 (0 : Int32) σ else if x6 = 0 then if x6 = 0 then k6 x1 x3 (x4 - (0 : Int32)) (x5 + 1) σ else k6 x1 x3 (x4 - (1 : Int32)) (x5 + 1) σ else if x4 = 0 then some (x5, σ) else if x6 = 0 then k6 x1 x3 (x4 - (0 : Int32)) (x5 + 1) σ else k6 x1 x3 (x4 - (1 : Int32)) (x5 + 1) σ) _ _ _ _
    refine z_iload (i := 7) hX d_M_holds_31 rfl ?_
    refine z_aload_n (i := 0) hX d_M_holds_33 rfl rfl ?_
    refine z_get (C := R_M) (T := F_M) (N := 27) hX in_M 0 rfl rfl 21 (by decide) w_field_M_106_M_21 rfl d_M_holds_34 ?_
    refine z_icmp_ge (tgt := 112) hX d_M_holds_37 (by decide) (fun c37 => ?_) (fun c37 => ?_)
    · refine z_iconst (v := 0) hX d_M_holds_40 (by decide) ?_
      refine z_istore (i := 8) (lv2 := [(8, .int (0 : Int32)), (0, .ref (ad 30)), (1, .long x1), (3, .int x3), (4, .int x4), (5, .int x5), (6, .int x6), (7, .int x7)]) hX d_M_holds_41 (by decide) rfl ?_
      refine z_lv hX [1, 2, 3, 4, 5, 6, 7, 0] (lv2 := [(0, .ref (ad 30)), (1, .long x1), (3, .int x3), (4, .int x4), (5, .int x5), (6, .int x6), (7, .int x7), (8, .int (0 : Int32))]) rfl ?_
      exact bk_M_holds_43 l D ad ca hX hR k6 hk6 (fn_M_holds_31 k6 n) ih 100 _ _ _ _ _ _ _ _
    · refine z_iload (i := 6) hX d_M_holds_112 rfl ?_
      refine z_if_eq (tgt := 125) hX d_M_holds_114 (by decide) (fun c114 => ?_) (fun c114 => ?_)
      · refine z_iload (i := 4) hX d_M_holds_125 rfl ?_
        refine z_iload (i := 6) hX d_M_holds_127 rfl ?_
        refine z_if_eq (tgt := 136) hX d_M_holds_129 (by decide) (fun c129 => ?_) (fun c129 => ?_)
        · refine z_iconst (v := 0) hX d_M_holds_136 (by decide) ?_
          refine z_isub hX d_M_holds_137 ?_
          refine z_istore (i := 4) (lv2 := [(4, .int (x4 - (0 : Int32))), (0, .ref (ad 30)), (1, .long x1), (3, .int x3), (5, .int x5), (6, .int x6), (7, .int x7)]) hX d_M_holds_138 (by decide) rfl ?_
          refine z_iinc (v := x5 + 1) (lv2 := [(5, .int (x5 + 1)), (4, .int (x4 - (0 : Int32))), (0, .ref (ad 30)), (1, .long x1), (3, .int x3), (6, .int x6), (7, .int x7)]) hX d_M_holds_140 4 rfl (by first | rfl | decide) (by decide) rfl ?_
          refine z_goto (tgt := 6) hX d_M_holds_143 (by decide) ?_
          refine z_lv hX [2, 3, 4, 1, 0] (lv2 := [(0, .ref (ad 30)), (1, .long x1), (3, .int x3), (4, .int (x4 - (0 : Int32))), (5, .int (x5 + 1))]) rfl ?_
          exact hk6 _ _ _ _ _
        · refine z_iconst (v := 1) hX d_M_holds_132 (by decide) ?_
          refine z_goto (tgt := 137) hX d_M_holds_133 (by decide) ?_
          refine z_isub hX d_M_holds_137 ?_
          refine z_istore (i := 4) (lv2 := [(4, .int (x4 - (1 : Int32))), (0, .ref (ad 30)), (1, .long x1), (3, .int x3), (5, .int x5), (6, .int x6), (7, .int x7)]) hX d_M_holds_138 (by decide) rfl ?_
          refine z_iinc (v := x5 + 1) (lv2 := [(5, .int (x5 + 1)), (4, .int (x4 - (1 : Int32))), (0, .ref (ad 30)), (1, .long x1), (3, .int x3), (6, .int x6), (7, .int x7)]) hX d_M_holds_140 4 rfl (by first | rfl | decide) (by decide) rfl ?_
          refine z_goto (tgt := 6) hX d_M_holds_143 (by decide) ?_
          refine z_lv hX [2, 3, 4, 1, 0] (lv2 := [(0, .ref (ad 30)), (1, .long x1), (3, .int x3), (4, .int (x4 - (1 : Int32))), (5, .int (x5 + 1))]) rfl ?_
          exact hk6 _ _ _ _ _
      · refine z_iload (i := 4) hX d_M_holds_117 rfl ?_
        refine z_if_ne (tgt := 125) hX d_M_holds_119 (by decide) (fun c119 => ?_) (fun c119 => ?_)
        · refine z_iload (i := 5) hX d_M_holds_122 rfl ?_
          exact z_iret hR d_M_holds_124
        · refine z_iload (i := 4) hX d_M_holds_125 rfl ?_
          refine z_iload (i := 6) hX d_M_holds_127 rfl ?_
          refine z_if_eq (tgt := 136) hX d_M_holds_129 (by decide) (fun c129 => ?_) (fun c129 => ?_)
          · refine z_iconst (v := 0) hX d_M_holds_136 (by decide) ?_
            refine z_isub hX d_M_holds_137 ?_
            refine z_istore (i := 4) (lv2 := [(4, .int (x4 - (0 : Int32))), (0, .ref (ad 30)), (1, .long x1), (3, .int x3), (5, .int x5), (6, .int x6), (7, .int x7)]) hX d_M_holds_138 (by decide) rfl ?_
            refine z_iinc (v := x5 + 1) (lv2 := [(5, .int (x5 + 1)), (4, .int (x4 - (0 : Int32))), (0, .ref (ad 30)), (1, .long x1), (3, .int x3), (6, .int x6), (7, .int x7)]) hX d_M_holds_140 4 rfl (by first | rfl | decide) (by decide) rfl ?_
            refine z_goto (tgt := 6) hX d_M_holds_143 (by decide) ?_
            refine z_lv hX [2, 3, 4, 1, 0] (lv2 := [(0, .ref (ad 30)), (1, .long x1), (3, .int x3), (4, .int (x4 - (0 : Int32))), (5, .int (x5 + 1))]) rfl ?_
            exact hk6 _ _ _ _ _
          · refine z_iconst (v := 1) hX d_M_holds_132 (by decide) ?_
            refine z_goto (tgt := 137) hX d_M_holds_133 (by decide) ?_
            refine z_isub hX d_M_holds_137 ?_
            refine z_istore (i := 4) (lv2 := [(4, .int (x4 - (1 : Int32))), (0, .ref (ad 30)), (1, .long x1), (3, .int x3), (5, .int x5), (6, .int x6), (7, .int x7)]) hX d_M_holds_138 (by decide) rfl ?_
            refine z_iinc (v := x5 + 1) (lv2 := [(5, .int (x5 + 1)), (4, .int (x4 - (1 : Int32))), (0, .ref (ad 30)), (1, .long x1), (3, .int x3), (6, .int x6), (7, .int x7)]) hX d_M_holds_140 4 rfl (by first | rfl | decide) (by decide) rfl ?_
            refine z_goto (tgt := 6) hX d_M_holds_143 (by decide) ?_
            refine z_lv hX [2, 3, 4, 1, 0] (lv2 := [(0, .ref (ad 30)), (1, .long x1), (3, .int x3), (4, .int (x4 - (1 : Int32))), (5, .int (x5 + 1))]) rfl ?_
            exact hk6 _ _ _ _ _
def fn_M_holds_6 : Nat → Int64 → Int32 → Int32 → Int32 → zS → Option (Int32 × zS)
  | 0, _, _, _, _, _ => none
  | n + 1, x1, x3, x4, x5, σ => if x5 < (σ.1 701 0) then if x3 < 0 then some ((-1 : Int32), σ) else zb (fn_M_goAlong x5 σ) (fun r22 s22 => fn_M_holds_31 (fn_M_holds_6 n) 100 x1 x3 x4 x5 (0 : Int32) (0 : Int32) s22) else some ((-1 : Int32), σ)
set_option maxRecDepth 100000 in
set_option maxHeartbeats 4000000 in
theorem bk_M_holds_6 (l : Launch) (D : va_G) (ad : Nat → Nat) (ca : Nat → ClassId) {V : zV Int32} {ex : va_W} (hX : zIs V l b_M_holds R_M zTT (zKK D ca) D zcl (zty ca) 9 (zrm 2 49)) (hR : zRi V b_M_holds (zwM ad ca) ex) : ∀ (n : Nat) (x1 : Int64) (x3 : Int32) (x4 : Int32) (x5 : Int32) (σ : zS), zJ V (fn_M_holds_6 n x1 x3 x4 x5 σ) (zwM ad ca σ ++ ex) 6 [(0, .ref (ad 30)), (1, .long x1), (3, .int x3), (4, .int x4), (5, .int x5)] [] := by
  intro n
  induction n with
  | zero => intros; exact z_none
  | succ n ih =>
    intro x1 x3 x4 x5 σ
    show zJ V (if x5 < (σ.1 701 0) then if x3 < 0 then some ((-1 : Int32), σ) else zb (fn_M_goAlong x5 σ) (fun r22 s22 => fn_M_holds_31 (fn_M_holds_6 n) 100 x1 x3 x4 x5 (0 : Int32) (0 : Int32) s22) else some ((-1 : Int32), σ)) _ _ _ _
    refine z_iload (i := 5) hX d_M_holds_6 rfl ?_
    refine z_aload_n (i := 0) hX d_M_holds_8 rfl rfl ?_
    refine z_get (C := R_M) (T := F_M) (N := 27) hX in_M 0 rfl rfl 1 (by decide) w_field_M_76_M_1 rfl d_M_holds_9 ?_
    refine z_icmp_ge (tgt := 146) hX d_M_holds_12 (by decide) (fun c12 => ?_) (fun c12 => ?_)
    · refine z_iload_n (i := 3) hX d_M_holds_15 rfl rfl ?_
      refine z_if_lt (tgt := 146) hX d_M_holds_16 (by decide) (fun c16 => ?_) (fun c16 => ?_)
      · refine z_iconst (v := -1) hX d_M_holds_146 (by decide) ?_
        exact z_iret hR d_M_holds_147
      · refine z_aload_n (i := 0) hX d_M_holds_19 rfl rfl ?_
        refine z_iload (i := 5) hX d_M_holds_20 rfl ?_
        refine z_callVv (wl := zwM ad ca) (C := R_M) (n := 1) (rest := []) hX [.int x5] (ct_M_goAlong l D ad ca x5 σ) gV_M_117 ⟨rfl, rfl⟩ ⟨by decide, by decide⟩ (by decide +kernel) rfl 0 rfl rfl rfl rfl (Nat.le_of_ble_eq_true rfl) d_M_holds_22 (fun r22 s22 => ?_)
        refine z_iconst (v := 0) hX d_M_holds_25 (by decide) ?_
        refine z_istore (i := 6) (lv2 := [(6, .int (0 : Int32)), (0, .ref (ad 30)), (1, .long x1), (3, .int x3), (4, .int x4), (5, .int x5)]) hX d_M_holds_26 (by decide) rfl ?_
        refine z_iconst (v := 0) hX d_M_holds_28 (by decide) ?_
        refine z_istore (i := 7) (lv2 := [(7, .int (0 : Int32)), (6, .int (0 : Int32)), (0, .ref (ad 30)), (1, .long x1), (3, .int x3), (4, .int x4), (5, .int x5)]) hX d_M_holds_29 (by decide) rfl ?_
        refine z_lv hX [2, 3, 4, 5, 6, 1, 0] (lv2 := [(0, .ref (ad 30)), (1, .long x1), (3, .int x3), (4, .int x4), (5, .int x5), (6, .int (0 : Int32)), (7, .int (0 : Int32))]) rfl ?_
        exact bk_M_holds_31 l D ad ca hX hR (fn_M_holds_6 n) ih 100 _ _ _ _ _ _ _
    · refine z_iconst (v := -1) hX d_M_holds_146 (by decide) ?_
      exact z_iret hR d_M_holds_147
def fn_M_holds (x1 : Int64) (x3 : Int32) (σ : zS) : Option (Int32 × zS) := fn_M_holds_6 100 x1 x3 x3 (0 : Int32) σ
set_option maxRecDepth 100000 in
set_option maxHeartbeats 4000000 in
theorem ct_M_holds (l : Launch) (D : va_G) (ad : Nat → Nat) (ca : Nat → ClassId) (x1 : Int64) (x3 : Int32) (σ : zS) : zC zemI l y_M_holds (Cond.code y_M_holds b_M_holds 9 (some .int) :: zTT) (zrm 2 49) D zcl (zKK D ca) (zwM ad ca) σ [.ref (ad 30), .long x1, .int x3] (fn_M_holds x1 x3 σ) := by
  refine zmk_i (tys := zty ca) (by decide) (zKK_m D ca) (fun _ h => h.1) (Nat.le_of_ble_eq_true rfl) (fun V ex hX hR => ?_)
  show zJ V (fn_M_holds_6 100 x1 x3 x3 (0 : Int32) σ) (zwM ad ca σ ++ ex) 0 [(0, .ref (ad 30)), (1, .long x1), (3, .int x3)] []
  refine z_iload_n (i := 3) hX d_M_holds_0 rfl rfl ?_
  refine z_istore (i := 4) (lv2 := [(4, .int x3), (0, .ref (ad 30)), (1, .long x1), (3, .int x3)]) hX d_M_holds_1 (by decide) rfl ?_
  refine z_iconst (v := 0) hX d_M_holds_3 (by decide) ?_
  refine z_istore (i := 5) (lv2 := [(5, .int (0 : Int32)), (4, .int x3), (0, .ref (ad 30)), (1, .long x1), (3, .int x3)]) hX d_M_holds_4 (by decide) rfl ?_
  refine z_lv hX [2, 3, 4, 1, 0] (lv2 := [(0, .ref (ad 30)), (1, .long x1), (3, .int x3), (4, .int x3), (5, .int (0 : Int32))]) rfl ?_
  exact bk_M_holds_6 l D ad ca hX hR 100 _ _ _ _ _
def fn_M_missing_19 : Nat → Int32 → Int32 → Int32 → zS → Option (Int32 × zS)
  | 0, _, _, _, _ => none
  | n + 1, x1, x3, x4, σ => zgd (zin x1 32) (if x4 < (σ.1 44 x1.toNatClampNeg) then zgd (zin (((6 : Int32) * x1) + x4) 192) (zb (fn_M_meets (σ.2 36 (((6 : Int32) * x1) + x4).toNatClampNeg) σ) (fun r43 s43 => if r43 = (-1 : Int32) then if x3 = 0 then some (x4, s43) else fn_M_missing_19 n x1 (x3 + (-1 : Int32)) (x4 + 1) s43 else fn_M_missing_19 n x1 x3 (x4 + 1) s43)) else some ((-1 : Int32), σ))
set_option maxRecDepth 100000 in
set_option maxHeartbeats 4000000 in
theorem bk_M_missing_19 (l : Launch) (D : va_G) (ad : Nat → Nat) (ca : Nat → ClassId) {V : zV Int32} {ex : va_W} (hX : zIs V l b_M_missing R_M zTT (zKK D ca) D zcl (zty ca) 5 (zrm 1 23)) (hR : zRi V b_M_missing (zwM ad ca) ex) : ∀ (n : Nat) (x1 : Int32) (x3 : Int32) (x4 : Int32) (σ : zS), zJ V (fn_M_missing_19 n x1 x3 x4 σ) (zwM ad ca σ ++ ex) 19 [(0, .ref (ad 30)), (1, .int x1), (3, .int x3), (4, .int x4)] [] := by
  intro n
  induction n with
  | zero => intros; exact z_none
  | succ n ih =>
    intro x1 x3 x4 σ
    show zJ V (zgd (zin x1 32) (if x4 < (σ.1 44 x1.toNatClampNeg) then zgd (zin (((6 : Int32) * x1) + x4) 192) (zb (fn_M_meets (σ.2 36 (((6 : Int32) * x1) + x4).toNatClampNeg) σ) (fun r43 s43 => if r43 = (-1 : Int32) then if x3 = 0 then some (x4, s43) else fn_M_missing_19 n x1 (x3 + (-1 : Int32)) (x4 + 1) s43 else fn_M_missing_19 n x1 x3 (x4 + 1) s43)) else some ((-1 : Int32), σ))) _ _ _ _
    refine z_iload (i := 4) hX d_M_missing_19 rfl ?_
    refine z_aload_n (i := 0) hX d_M_missing_21 rfl rfl ?_
    refine z_get (C := R_M) (T := F_M) (N := 27) hX in_M 0 rfl rfl 16 (by decide) w_field_M_51_M_16 rfl d_M_missing_22 ?_
    refine z_iload_n (i := 1) hX d_M_missing_25 rfl rfl ?_
    refine z_iald hX 14 34 rfl rfl d_M_missing_26 ?_
    refine z_icmp_ge (tgt := 69) hX d_M_missing_27 (by decide) (fun c27 => ?_) (fun c27 => ?_)
    · refine z_aload_n (i := 0) hX d_M_missing_30 rfl rfl ?_
      refine z_aload_n (i := 0) hX d_M_missing_31 rfl rfl ?_
      refine z_get (C := R_M) (T := F_M) (N := 27) hX in_M 0 rfl rfl 8 (by decide) w_field_M_27_M_8 rfl d_M_missing_32 ?_
      refine z_bipush (v := 6) hX d_M_missing_35 (by decide) ?_
      refine z_iload_n (i := 1) hX d_M_missing_37 rfl rfl ?_
      refine z_imul hX d_M_missing_38 ?_
      refine z_iload (i := 4) hX d_M_missing_39 rfl ?_
      refine z_iadd hX d_M_missing_41 ?_
      refine z_lald hX 6 26 rfl rfl d_M_missing_42 ?_
      refine z_callVi (wl := zwM ad ca) (C := R_M) (n := 1) (rest := []) hX [.long (σ.2 36 (((6 : Int32) * x1) + x4).toNatClampNeg)] (ct_M_meets l D ad ca (σ.2 36 (((6 : Int32) * x1) + x4).toNatClampNeg) σ) gV_M_113 ⟨rfl, rfl⟩ ⟨by decide, by decide⟩ (by decide +kernel) rfl 0 rfl rfl rfl rfl (Nat.le_of_ble_eq_true rfl) d_M_missing_43 (fun r43 s43 => ?_)
      refine z_iconst (v := -1) hX d_M_missing_46 (by decide) ?_
      refine z_icmp_eq (tgt := 53) hX d_M_missing_47 (by decide) (fun c47 => ?_) (fun c47 => ?_)
      · refine z_iload_n (i := 3) hX d_M_missing_53 rfl rfl ?_
        refine z_if_ne (tgt := 60) hX d_M_missing_54 (by decide) (fun c54 => ?_) (fun c54 => ?_)
        · refine z_iload (i := 4) hX d_M_missing_57 rfl ?_
          exact z_iret hR d_M_missing_59
        · refine z_iinc (v := x3 + (-1 : Int32)) (lv2 := [(3, .int (x3 + (-1 : Int32))), (0, .ref (ad 30)), (1, .int x1), (4, .int x4)]) hX d_M_missing_60 2 rfl (by first | rfl | decide) (by decide) rfl ?_
          refine z_iinc (v := x4 + 1) (lv2 := [(4, .int (x4 + 1)), (3, .int (x3 + (-1 : Int32))), (0, .ref (ad 30)), (1, .int x1)]) hX d_M_missing_63 3 rfl (by first | rfl | decide) (by decide) rfl ?_
          refine z_goto (tgt := 19) hX d_M_missing_66 (by decide) ?_
          refine z_lv hX [2, 3, 1, 0] (lv2 := [(0, .ref (ad 30)), (1, .int x1), (3, .int (x3 + (-1 : Int32))), (4, .int (x4 + 1))]) rfl ?_
          exact ih _ _ _ _
      · refine z_goto (tgt := 63) hX d_M_missing_50 (by decide) ?_
        refine z_iinc (v := x4 + 1) (lv2 := [(4, .int (x4 + 1)), (0, .ref (ad 30)), (1, .int x1), (3, .int x3)]) hX d_M_missing_63 3 rfl (by first | rfl | decide) (by decide) rfl ?_
        refine z_goto (tgt := 19) hX d_M_missing_66 (by decide) ?_
        refine z_lv hX [1, 2, 3, 0] (lv2 := [(0, .ref (ad 30)), (1, .int x1), (3, .int x3), (4, .int (x4 + 1))]) rfl ?_
        exact ih _ _ _ _
    · refine z_iconst (v := -1) hX d_M_missing_69 (by decide) ?_
      exact z_iret hR d_M_missing_70
def fn_M_missing (x1 : Int32) (x2 : Int32) (σ : zS) : Option (Int32 × zS) := zb (fn_M_isArtefact x1 σ) (fun r2 s2 => if r2 = 0 then some ((-1 : Int32), s2) else if x2 < 0 then some ((-1 : Int32), s2) else fn_M_missing_19 100 x1 x2 (0 : Int32) s2)
set_option maxRecDepth 100000 in
set_option maxHeartbeats 4000000 in
theorem ct_M_missing (l : Launch) (D : va_G) (ad : Nat → Nat) (ca : Nat → ClassId) (x1 : Int32) (x2 : Int32) (σ : zS) : zC zemI l y_M_missing (Cond.code y_M_missing b_M_missing 5 (some .int) :: zTT) (zrm 1 23) D zcl (zKK D ca) (zwM ad ca) σ [.ref (ad 30), .int x1, .int x2] (fn_M_missing x1 x2 σ) := by
  refine zmk_i (tys := zty ca) (by decide) (zKK_m D ca) (fun _ h => h.1) (Nat.le_of_ble_eq_true rfl) (fun V ex hX hR => ?_)
  show zJ V (zb (fn_M_isArtefact x1 σ) (fun r2 s2 => if r2 = 0 then some ((-1 : Int32), s2) else if x2 < 0 then some ((-1 : Int32), s2) else fn_M_missing_19 100 x1 x2 (0 : Int32) s2)) (zwM ad ca σ ++ ex) 0 [(0, .ref (ad 30)), (1, .int x1), (2, .int x2)] []
  refine z_aload_n (i := 0) hX d_M_missing_0 rfl rfl ?_
  refine z_iload_n (i := 1) hX d_M_missing_1 rfl rfl ?_
  refine z_callVi (wl := zwM ad ca) (C := R_M) (n := 1) (rest := []) hX [.int x1] (ct_M_isArtefact l D ad ca x1 σ) gV_M_92 ⟨rfl, rfl⟩ ⟨by decide, by decide⟩ (by decide +kernel) rfl 0 rfl rfl rfl rfl (Nat.le_of_ble_eq_true rfl) d_M_missing_2 (fun r2 s2 => ?_)
  refine z_if_eq (tgt := 12) hX d_M_missing_5 (by decide) (fun c5 => ?_) (fun c5 => ?_)
  · refine z_iconst (v := -1) hX d_M_missing_12 (by decide) ?_
    exact z_iret hR d_M_missing_13
  · refine z_iload_n (i := 2) hX d_M_missing_8 rfl rfl ?_
    refine z_if_ge (tgt := 14) hX d_M_missing_9 (by decide) (fun c9 => ?_) (fun c9 => ?_)
    · refine z_iconst (v := -1) hX d_M_missing_12 (by decide) ?_
      exact z_iret hR d_M_missing_13
    · refine z_iload_n (i := 2) hX d_M_missing_14 rfl rfl ?_
      refine z_istore_n (i := 3) (lv2 := [(3, .int x2), (0, .ref (ad 30)), (1, .int x1), (2, .int x2)]) hX d_M_missing_15 rfl (by decide) rfl ?_
      refine z_iconst (v := 0) hX d_M_missing_16 (by decide) ?_
      refine z_istore (i := 4) (lv2 := [(4, .int (0 : Int32)), (3, .int x2), (0, .ref (ad 30)), (1, .int x1), (2, .int x2)]) hX d_M_missing_17 (by decide) rfl ?_
      refine z_lv hX [2, 3, 1, 0] (lv2 := [(0, .ref (ad 30)), (1, .int x1), (3, .int x2), (4, .int (0 : Int32))]) rfl ?_
      exact bk_M_missing_19 l D ad ca hX hR 100 _ _ _ _
def fn_M_others_5 : Nat → Int32 → Int32 → Int32 → Int32 → zS → Option (Int32 × zS)
  | 0, _, _, _, _, _ => none
  | n + 1, x1, x2, x3, x4, σ => if x4 < (16 : Int32) then if x4 = x2 then fn_M_others_5 n x1 x2 (x3 + (0 : Int32)) (x4 + 1) σ else zgd (zin x1 24) (fn_M_others_5 n x1 x2 (x3 + ((zshr (σ.1 33 x1.toNatClampNeg) x4) &&& (1 : Int32))) (x4 + 1) σ) else some (x3, σ)
set_option maxRecDepth 100000 in
set_option maxHeartbeats 4000000 in
theorem bk_M_others_5 (l : Launch) (D : va_G) (ad : Nat → Nat) (ca : Nat → ClassId) {V : zV Int32} {ex : va_W} (hX : zIs V l b_M_others R_M zTT (zKK D ca) D zcl (zty ca) 5 (zrm 0 0)) (hR : zRi V b_M_others (zwM ad ca) ex) : ∀ (n : Nat) (x1 : Int32) (x2 : Int32) (x3 : Int32) (x4 : Int32) (σ : zS), zJ V (fn_M_others_5 n x1 x2 x3 x4 σ) (zwM ad ca σ ++ ex) 5 [(0, .ref (ad 30)), (1, .int x1), (2, .int x2), (3, .int x3), (4, .int x4)] [] := by
  intro n
  induction n with
  | zero => intros; exact z_none
  | succ n ih =>
    intro x1 x2 x3 x4 σ
    show zJ V (if x4 < (16 : Int32) then if x4 = x2 then fn_M_others_5 n x1 x2 (x3 + (0 : Int32)) (x4 + 1) σ else zgd (zin x1 24) (fn_M_others_5 n x1 x2 (x3 + ((zshr (σ.1 33 x1.toNatClampNeg) x4) &&& (1 : Int32))) (x4 + 1) σ) else some (x3, σ)) _ _ _ _
    refine z_iload (i := 4) hX d_M_others_5 rfl ?_
    refine z_bipush (v := 16) hX d_M_others_7 (by decide) ?_
    refine z_icmp_ge (tgt := 42) hX d_M_others_9 (by decide) (fun c9 => ?_) (fun c9 => ?_)
    · refine z_iload_n (i := 3) hX d_M_others_12 rfl rfl ?_
      refine z_iload (i := 4) hX d_M_others_13 rfl ?_
      refine z_iload_n (i := 2) hX d_M_others_15 rfl rfl ?_
      refine z_icmp_ne (tgt := 23) hX d_M_others_16 (by decide) (fun c16 => ?_) (fun c16 => ?_)
      · refine z_iconst (v := 0) hX d_M_others_19 (by decide) ?_
        refine z_goto (tgt := 34) hX d_M_others_20 (by decide) ?_
        refine z_iadd hX d_M_others_34 ?_
        refine z_istore_n (i := 3) (lv2 := [(3, .int (x3 + (0 : Int32))), (0, .ref (ad 30)), (1, .int x1), (2, .int x2), (4, .int x4)]) hX d_M_others_35 rfl (by decide) rfl ?_
        refine z_iinc (v := x4 + 1) (lv2 := [(4, .int (x4 + 1)), (3, .int (x3 + (0 : Int32))), (0, .ref (ad 30)), (1, .int x1), (2, .int x2)]) hX d_M_others_36 4 rfl (by first | rfl | decide) (by decide) rfl ?_
        refine z_goto (tgt := 5) hX d_M_others_39 (by decide) ?_
        refine z_lv hX [2, 3, 4, 1, 0] (lv2 := [(0, .ref (ad 30)), (1, .int x1), (2, .int x2), (3, .int (x3 + (0 : Int32))), (4, .int (x4 + 1))]) rfl ?_
        exact ih _ _ _ _ _
      · refine z_aload_n (i := 0) hX d_M_others_23 rfl rfl ?_
        refine z_get (C := R_M) (T := F_M) (N := 27) hX in_M 0 rfl rfl 5 (by decide) w_field_M_17_M_5 rfl d_M_others_24 ?_
        refine z_iload_n (i := 1) hX d_M_others_27 rfl rfl ?_
        refine z_iald hX 3 23 rfl rfl d_M_others_28 ?_
        refine z_iload (i := 4) hX d_M_others_29 rfl ?_
        refine z_ishr hX d_M_others_31 ?_
        refine z_iconst (v := 1) hX d_M_others_32 (by decide) ?_
        refine z_iand hX d_M_others_33 ?_
        refine z_iadd hX d_M_others_34 ?_
        refine z_istore_n (i := 3) (lv2 := [(3, .int (x3 + ((zshr (σ.1 33 x1.toNatClampNeg) x4) &&& (1 : Int32)))), (0, .ref (ad 30)), (1, .int x1), (2, .int x2), (4, .int x4)]) hX d_M_others_35 rfl (by decide) rfl ?_
        refine z_iinc (v := x4 + 1) (lv2 := [(4, .int (x4 + 1)), (3, .int (x3 + ((zshr (σ.1 33 x1.toNatClampNeg) x4) &&& (1 : Int32)))), (0, .ref (ad 30)), (1, .int x1), (2, .int x2)]) hX d_M_others_36 4 rfl (by first | rfl | decide) (by decide) rfl ?_
        refine z_goto (tgt := 5) hX d_M_others_39 (by decide) ?_
        refine z_lv hX [2, 3, 4, 1, 0] (lv2 := [(0, .ref (ad 30)), (1, .int x1), (2, .int x2), (3, .int (x3 + ((zshr (σ.1 33 x1.toNatClampNeg) x4) &&& (1 : Int32)))), (4, .int (x4 + 1))]) rfl ?_
        exact ih _ _ _ _ _
    · refine z_iload_n (i := 3) hX d_M_others_42 rfl rfl ?_
      exact z_iret hR d_M_others_43
def fn_M_others (x1 : Int32) (x2 : Int32) (σ : zS) : Option (Int32 × zS) := fn_M_others_5 100 x1 x2 (0 : Int32) (0 : Int32) σ
set_option maxRecDepth 100000 in
set_option maxHeartbeats 4000000 in
theorem ct_M_others (l : Launch) (D : va_G) (ad : Nat → Nat) (ca : Nat → ClassId) (x1 : Int32) (x2 : Int32) (σ : zS) : zC zemI l y_M_others (Cond.code y_M_others b_M_others 5 (some .int) :: zTT) (zrm 0 0) D zcl (zKK D ca) (zwM ad ca) σ [.ref (ad 30), .int x1, .int x2] (fn_M_others x1 x2 σ) := by
  refine zmk_i (tys := zty ca) (by decide) (zKK_m D ca) (fun _ h => h.1) (Nat.le_of_ble_eq_true rfl) (fun V ex hX hR => ?_)
  show zJ V (fn_M_others_5 100 x1 x2 (0 : Int32) (0 : Int32) σ) (zwM ad ca σ ++ ex) 0 [(0, .ref (ad 30)), (1, .int x1), (2, .int x2)] []
  refine z_iconst (v := 0) hX d_M_others_0 (by decide) ?_
  refine z_istore_n (i := 3) (lv2 := [(3, .int (0 : Int32)), (0, .ref (ad 30)), (1, .int x1), (2, .int x2)]) hX d_M_others_1 rfl (by decide) rfl ?_
  refine z_iconst (v := 0) hX d_M_others_2 (by decide) ?_
  refine z_istore (i := 4) (lv2 := [(4, .int (0 : Int32)), (3, .int (0 : Int32)), (0, .ref (ad 30)), (1, .int x1), (2, .int x2)]) hX d_M_others_3 (by decide) rfl ?_
  refine z_lv hX [2, 3, 4, 1, 0] (lv2 := [(0, .ref (ad 30)), (1, .int x1), (2, .int x2), (3, .int (0 : Int32)), (4, .int (0 : Int32))]) rfl ?_
  exact bk_M_others_5 l D ad ca hX hR 100 _ _ _ _ _
def fn_M_sourceBreaks_3 : Nat → Int32 → Int32 → Int32 → Int32 → zS → Option (Int32 × zS)
  | 0, _, _, _, _, _ => none
  | n + 1, x1, x2, x3, x4, σ => zgd (zin x1 32) (if x4 < (σ.1 42 x1.toNatClampNeg) then zgd (zin (((6 : Int32) * x1) + x4) 192) (if x2 = (2 : Int32) then zgd (zin (σ.1 43 (((6 : Int32) * x1) + x4).toNatClampNeg) 24) (if ((zshr x3 (σ.1 32 (σ.1 43 (((6 : Int32) * x1) + x4).toNatClampNeg).toNatClampNeg)) &&& (1 : Int32)) = 0 then if (1 : Int32) = 0 then fn_M_sourceBreaks_3 n x1 x2 x3 (x4 + 1) σ else some ((1 : Int32), σ) else if (0 : Int32) = 0 then fn_M_sourceBreaks_3 n x1 x2 x3 (x4 + 1) σ else some ((1 : Int32), σ)) else if x2 = (3 : Int32) then zgd (zin x1 32) (zb (fn_M_others (σ.1 43 (((6 : Int32) * x1) + x4).toNatClampNeg) (σ.1 40 x1.toNatClampNeg) σ) (fun r69 s69 => if r69 < x3 then if (1 : Int32) = 0 then fn_M_sourceBreaks_3 n x1 x2 x3 (x4 + 1) s69 else some ((1 : Int32), s69) else if (0 : Int32) = 0 then fn_M_sourceBreaks_3 n x1 x2 x3 (x4 + 1) s69 else some ((1 : Int32), s69))) else zgd (zin (σ.1 43 (((6 : Int32) * x1) + x4).toNatClampNeg) 24) (if (σ.1 34 (σ.1 43 (((6 : Int32) * x1) + x4).toNatClampNeg).toNatClampNeg) = 0 then fn_M_sourceBreaks_3 n x1 x2 x3 (x4 + 1) σ else some ((1 : Int32), σ))) else some ((0 : Int32), σ))
set_option maxRecDepth 100000 in
set_option maxHeartbeats 4000000 in
theorem bk_M_sourceBreaks_3 (l : Launch) (D : va_G) (ad : Nat → Nat) (ca : Nat → ClassId) {V : zV Int32} {ex : va_W} (hX : zIs V l b_M_sourceBreaks R_M zTT (zKK D ca) D zcl (zty ca) 7 (zrm 1 24)) (hR : zRz V b_M_sourceBreaks (zwM ad ca) ex) : ∀ (n : Nat) (x1 : Int32) (x2 : Int32) (x3 : Int32) (x4 : Int32) (σ : zS), zJ V (fn_M_sourceBreaks_3 n x1 x2 x3 x4 σ) (zwM ad ca σ ++ ex) 3 [(0, .ref (ad 30)), (1, .int x1), (2, .int x2), (3, .int x3), (4, .int x4)] [] := by
  intro n
  induction n with
  | zero => intros; exact z_none
  | succ n ih =>
    intro x1 x2 x3 x4 σ
    show zJ V (zgd (zin x1 32) (if x4 < (σ.1 42 x1.toNatClampNeg) then zgd (zin (((6 : Int32) * x1) + x4) 192) (if x2 = (2 : Int32) then zgd (zin (σ.1 43 (((6 : Int32) * x1) + x4).toNatClampNeg) 24) (if ((zshr x3 (σ.1 32 (σ.1 43 (((6 : Int32) * x1) + x4).toNatClampNeg).toNatClampNeg)) &&& (1 : Int32)) = 0 then if (1 : Int32) = 0 then fn_M_sourceBreaks_3 n x1 x2 x3 (x4 + 1) σ else some ((1 : Int32), σ) else if (0 : Int32) = 0 then fn_M_sourceBreaks_3 n x1 x2 x3 (x4 + 1) σ else some ((1 : Int32), σ)) else if x2 = (3 : Int32) then zgd (zin x1 32) (zb (fn_M_others (σ.1 43 (((6 : Int32) * x1) + x4).toNatClampNeg) (σ.1 40 x1.toNatClampNeg) σ) (fun r69 s69 => if r69 < x3 then if (1 : Int32) = 0 then fn_M_sourceBreaks_3 n x1 x2 x3 (x4 + 1) s69 else some ((1 : Int32), s69) else if (0 : Int32) = 0 then fn_M_sourceBreaks_3 n x1 x2 x3 (x4 + 1) s69 else some ((1 : Int32), s69))) else zgd (zin (σ.1 43 (((6 : Int32) * x1) + x4).toNatClampNeg) 24) (if (σ.1 34 (σ.1 43 (((6 : Int32) * x1) + x4).toNatClampNeg).toNatClampNeg) = 0 then fn_M_sourceBreaks_3 n x1 x2 x3 (x4 + 1) σ else some ((1 : Int32), σ))) else some ((0 : Int32), σ))) _ _ _ _
    refine z_iload (i := 4) hX d_M_sourceBreaks_3 rfl ?_
    refine z_aload_n (i := 0) hX d_M_sourceBreaks_5 rfl rfl ?_
    refine z_get (C := R_M) (T := F_M) (N := 27) hX in_M 0 rfl rfl 14 (by decide) w_field_M_45_M_14 rfl d_M_sourceBreaks_6 ?_
    refine z_iload_n (i := 1) hX d_M_sourceBreaks_9 rfl rfl ?_
    refine z_iald hX 12 32 rfl rfl d_M_sourceBreaks_10 ?_
    refine z_icmp_ge (tgt := 106) hX d_M_sourceBreaks_11 (by decide) (fun c11 => ?_) (fun c11 => ?_)
    · refine z_aload_n (i := 0) hX d_M_sourceBreaks_14 rfl rfl ?_
      refine z_get (C := R_M) (T := F_M) (N := 27) hX in_M 0 rfl rfl 15 (by decide) w_field_M_48_M_15 rfl d_M_sourceBreaks_15 ?_
      refine z_bipush (v := 6) hX d_M_sourceBreaks_18 (by decide) ?_
      refine z_iload_n (i := 1) hX d_M_sourceBreaks_20 rfl rfl ?_
      refine z_imul hX d_M_sourceBreaks_21 ?_
      refine z_iload (i := 4) hX d_M_sourceBreaks_22 rfl ?_
      refine z_iadd hX d_M_sourceBreaks_24 ?_
      refine z_iald hX 13 33 rfl rfl d_M_sourceBreaks_25 ?_
      refine z_istore (i := 5) (lv2 := [(5, .int (σ.1 43 (((6 : Int32) * x1) + x4).toNatClampNeg)), (0, .ref (ad 30)), (1, .int x1), (2, .int x2), (3, .int x3), (4, .int x4)]) hX d_M_sourceBreaks_26 (by decide) rfl ?_
      refine z_iload_n (i := 2) hX d_M_sourceBreaks_28 rfl rfl ?_
      refine z_iconst (v := 2) hX d_M_sourceBreaks_29 (by decide) ?_
      refine z_icmp_ne (tgt := 55) hX d_M_sourceBreaks_30 (by decide) (fun c30 => ?_) (fun c30 => ?_)
      · refine z_iload_n (i := 3) hX d_M_sourceBreaks_33 rfl rfl ?_
        refine z_aload_n (i := 0) hX d_M_sourceBreaks_34 rfl rfl ?_
        refine z_get (C := R_M) (T := F_M) (N := 27) hX in_M 0 rfl rfl 4 (by decide) w_field_M_13_M_4 rfl d_M_sourceBreaks_35 ?_
        refine z_iload (i := 5) hX d_M_sourceBreaks_38 rfl ?_
        refine z_iald hX 2 22 rfl rfl d_M_sourceBreaks_40 ?_
        refine z_ishr hX d_M_sourceBreaks_41 ?_
        refine z_iconst (v := 1) hX d_M_sourceBreaks_42 (by decide) ?_
        refine z_iand hX d_M_sourceBreaks_43 ?_
        refine z_if_ne (tgt := 51) hX d_M_sourceBreaks_44 (by decide) (fun c44 => ?_) (fun c44 => ?_)
        · refine z_iconst (v := 1) hX d_M_sourceBreaks_47 (by decide) ?_
          refine z_goto (tgt := 91) hX d_M_sourceBreaks_48 (by decide) ?_
          refine z_istore (i := 6) (lv2 := [(6, .int (1 : Int32)), (5, .int (σ.1 43 (((6 : Int32) * x1) + x4).toNatClampNeg)), (0, .ref (ad 30)), (1, .int x1), (2, .int x2), (3, .int x3), (4, .int x4)]) hX d_M_sourceBreaks_91 (by decide) rfl ?_
          refine z_iload (i := 6) hX d_M_sourceBreaks_93 rfl ?_
          refine z_if_eq (tgt := 100) hX d_M_sourceBreaks_95 (by decide) (fun c95 => ?_) (fun c95 => ?_)
          · refine z_iinc (v := x4 + 1) (lv2 := [(4, .int (x4 + 1)), (6, .int (1 : Int32)), (5, .int (σ.1 43 (((6 : Int32) * x1) + x4).toNatClampNeg)), (0, .ref (ad 30)), (1, .int x1), (2, .int x2), (3, .int x3)]) hX d_M_sourceBreaks_100 6 rfl (by first | rfl | decide) (by decide) rfl ?_
            refine z_goto (tgt := 3) hX d_M_sourceBreaks_103 (by decide) ?_
            refine z_lv hX [3, 4, 5, 6, 0] (lv2 := [(0, .ref (ad 30)), (1, .int x1), (2, .int x2), (3, .int x3), (4, .int (x4 + 1))]) rfl ?_
            exact ih _ _ _ _ _
          · refine z_iconst (v := 1) hX d_M_sourceBreaks_98 (by decide) ?_
            exact z_zret hR rfl d_M_sourceBreaks_99
        · refine z_iconst (v := 0) hX d_M_sourceBreaks_51 (by decide) ?_
          refine z_goto (tgt := 91) hX d_M_sourceBreaks_52 (by decide) ?_
          refine z_istore (i := 6) (lv2 := [(6, .int (0 : Int32)), (5, .int (σ.1 43 (((6 : Int32) * x1) + x4).toNatClampNeg)), (0, .ref (ad 30)), (1, .int x1), (2, .int x2), (3, .int x3), (4, .int x4)]) hX d_M_sourceBreaks_91 (by decide) rfl ?_
          refine z_iload (i := 6) hX d_M_sourceBreaks_93 rfl ?_
          refine z_if_eq (tgt := 100) hX d_M_sourceBreaks_95 (by decide) (fun c95 => ?_) (fun c95 => ?_)
          · refine z_iinc (v := x4 + 1) (lv2 := [(4, .int (x4 + 1)), (6, .int (0 : Int32)), (5, .int (σ.1 43 (((6 : Int32) * x1) + x4).toNatClampNeg)), (0, .ref (ad 30)), (1, .int x1), (2, .int x2), (3, .int x3)]) hX d_M_sourceBreaks_100 6 rfl (by first | rfl | decide) (by decide) rfl ?_
            refine z_goto (tgt := 3) hX d_M_sourceBreaks_103 (by decide) ?_
            refine z_lv hX [3, 4, 5, 6, 0] (lv2 := [(0, .ref (ad 30)), (1, .int x1), (2, .int x2), (3, .int x3), (4, .int (x4 + 1))]) rfl ?_
            exact ih _ _ _ _ _
          · refine z_iconst (v := 1) hX d_M_sourceBreaks_98 (by decide) ?_
            exact z_zret hR rfl d_M_sourceBreaks_99
      · refine z_iload_n (i := 2) hX d_M_sourceBreaks_55 rfl rfl ?_
        refine z_iconst (v := 3) hX d_M_sourceBreaks_56 (by decide) ?_
        refine z_icmp_ne (tgt := 84) hX d_M_sourceBreaks_57 (by decide) (fun c57 => ?_) (fun c57 => ?_)
        · refine z_aload_n (i := 0) hX d_M_sourceBreaks_60 rfl rfl ?_
          refine z_iload (i := 5) hX d_M_sourceBreaks_61 rfl ?_
          refine z_aload_n (i := 0) hX d_M_sourceBreaks_63 rfl rfl ?_
          refine z_get (C := R_M) (T := F_M) (N := 27) hX in_M 0 rfl rfl 12 (by decide) w_field_M_39_M_12 rfl d_M_sourceBreaks_64 ?_
          refine z_iload_n (i := 1) hX d_M_sourceBreaks_67 rfl rfl ?_
          refine z_iald hX 10 30 rfl rfl d_M_sourceBreaks_68 ?_
          refine z_callVi (wl := zwM ad ca) (C := R_M) (n := 2) (rest := []) hX [.int (σ.1 43 (((6 : Int32) * x1) + x4).toNatClampNeg), .int (σ.1 40 x1.toNatClampNeg)] (ct_M_others l D ad ca (σ.1 43 (((6 : Int32) * x1) + x4).toNatClampNeg) (σ.1 40 x1.toNatClampNeg) σ) gV_M_123 ⟨rfl, rfl⟩ ⟨by decide, by decide⟩ (by decide +kernel) rfl 0 rfl rfl rfl rfl (Nat.le_of_ble_eq_true rfl) d_M_sourceBreaks_69 (fun r69 s69 => ?_)
          refine z_iload_n (i := 3) hX d_M_sourceBreaks_72 rfl rfl ?_
          refine z_icmp_ge (tgt := 80) hX d_M_sourceBreaks_73 (by decide) (fun c73 => ?_) (fun c73 => ?_)
          · refine z_iconst (v := 1) hX d_M_sourceBreaks_76 (by decide) ?_
            refine z_goto (tgt := 91) hX d_M_sourceBreaks_77 (by decide) ?_
            refine z_istore (i := 6) (lv2 := [(6, .int (1 : Int32)), (5, .int (σ.1 43 (((6 : Int32) * x1) + x4).toNatClampNeg)), (0, .ref (ad 30)), (1, .int x1), (2, .int x2), (3, .int x3), (4, .int x4)]) hX d_M_sourceBreaks_91 (by decide) rfl ?_
            refine z_iload (i := 6) hX d_M_sourceBreaks_93 rfl ?_
            refine z_if_eq (tgt := 100) hX d_M_sourceBreaks_95 (by decide) (fun c95 => ?_) (fun c95 => ?_)
            · refine z_iinc (v := x4 + 1) (lv2 := [(4, .int (x4 + 1)), (6, .int (1 : Int32)), (5, .int (σ.1 43 (((6 : Int32) * x1) + x4).toNatClampNeg)), (0, .ref (ad 30)), (1, .int x1), (2, .int x2), (3, .int x3)]) hX d_M_sourceBreaks_100 6 rfl (by first | rfl | decide) (by decide) rfl ?_
              refine z_goto (tgt := 3) hX d_M_sourceBreaks_103 (by decide) ?_
              refine z_lv hX [3, 4, 5, 6, 0] (lv2 := [(0, .ref (ad 30)), (1, .int x1), (2, .int x2), (3, .int x3), (4, .int (x4 + 1))]) rfl ?_
              exact ih _ _ _ _ _
            · refine z_iconst (v := 1) hX d_M_sourceBreaks_98 (by decide) ?_
              exact z_zret hR rfl d_M_sourceBreaks_99
          · refine z_iconst (v := 0) hX d_M_sourceBreaks_80 (by decide) ?_
            refine z_goto (tgt := 91) hX d_M_sourceBreaks_81 (by decide) ?_
            refine z_istore (i := 6) (lv2 := [(6, .int (0 : Int32)), (5, .int (σ.1 43 (((6 : Int32) * x1) + x4).toNatClampNeg)), (0, .ref (ad 30)), (1, .int x1), (2, .int x2), (3, .int x3), (4, .int x4)]) hX d_M_sourceBreaks_91 (by decide) rfl ?_
            refine z_iload (i := 6) hX d_M_sourceBreaks_93 rfl ?_
            refine z_if_eq (tgt := 100) hX d_M_sourceBreaks_95 (by decide) (fun c95 => ?_) (fun c95 => ?_)
            · refine z_iinc (v := x4 + 1) (lv2 := [(4, .int (x4 + 1)), (6, .int (0 : Int32)), (5, .int (σ.1 43 (((6 : Int32) * x1) + x4).toNatClampNeg)), (0, .ref (ad 30)), (1, .int x1), (2, .int x2), (3, .int x3)]) hX d_M_sourceBreaks_100 6 rfl (by first | rfl | decide) (by decide) rfl ?_
              refine z_goto (tgt := 3) hX d_M_sourceBreaks_103 (by decide) ?_
              refine z_lv hX [3, 4, 5, 6, 0] (lv2 := [(0, .ref (ad 30)), (1, .int x1), (2, .int x2), (3, .int x3), (4, .int (x4 + 1))]) rfl ?_
              exact ih _ _ _ _ _
            · refine z_iconst (v := 1) hX d_M_sourceBreaks_98 (by decide) ?_
              exact z_zret hR rfl d_M_sourceBreaks_99
        · refine z_aload_n (i := 0) hX d_M_sourceBreaks_84 rfl rfl ?_
          refine z_get (C := R_M) (T := F_M) (N := 27) hX in_M 0 rfl rfl 6 (by decide) w_field_M_20_M_6 rfl d_M_sourceBreaks_85 ?_
          refine z_iload (i := 5) hX d_M_sourceBreaks_88 rfl ?_
          refine z_zald hX 4 24 rfl rfl d_M_sourceBreaks_90 ?_
          refine z_istore (i := 6) (lv2 := [(6, .int (σ.1 34 (σ.1 43 (((6 : Int32) * x1) + x4).toNatClampNeg).toNatClampNeg)), (5, .int (σ.1 43 (((6 : Int32) * x1) + x4).toNatClampNeg)), (0, .ref (ad 30)), (1, .int x1), (2, .int x2), (3, .int x3), (4, .int x4)]) hX d_M_sourceBreaks_91 (by decide) rfl ?_
          refine z_iload (i := 6) hX d_M_sourceBreaks_93 rfl ?_
          refine z_if_eq (tgt := 100) hX d_M_sourceBreaks_95 (by decide) (fun c95 => ?_) (fun c95 => ?_)
          · refine z_iinc (v := x4 + 1) (lv2 := [(4, .int (x4 + 1)), (6, .int (σ.1 34 (σ.1 43 (((6 : Int32) * x1) + x4).toNatClampNeg).toNatClampNeg)), (5, .int (σ.1 43 (((6 : Int32) * x1) + x4).toNatClampNeg)), (0, .ref (ad 30)), (1, .int x1), (2, .int x2), (3, .int x3)]) hX d_M_sourceBreaks_100 6 rfl (by first | rfl | decide) (by decide) rfl ?_
            refine z_goto (tgt := 3) hX d_M_sourceBreaks_103 (by decide) ?_
            refine z_lv hX [3, 4, 5, 6, 0] (lv2 := [(0, .ref (ad 30)), (1, .int x1), (2, .int x2), (3, .int x3), (4, .int (x4 + 1))]) rfl ?_
            exact ih _ _ _ _ _
          · refine z_iconst (v := 1) hX d_M_sourceBreaks_98 (by decide) ?_
            exact z_zret hR rfl d_M_sourceBreaks_99
    · refine z_iconst (v := 0) hX d_M_sourceBreaks_106 (by decide) ?_
      exact z_zret hR rfl d_M_sourceBreaks_107
def fn_M_sourceBreaks (x1 : Int32) (x2 : Int32) (x3 : Int32) (σ : zS) : Option (Int32 × zS) := fn_M_sourceBreaks_3 100 x1 x2 x3 (0 : Int32) σ
set_option maxRecDepth 100000 in
set_option maxHeartbeats 4000000 in
theorem ct_M_sourceBreaks (l : Launch) (D : va_G) (ad : Nat → Nat) (ca : Nat → ClassId) (x1 : Int32) (x2 : Int32) (x3 : Int32) (σ : zS) : zC zemI l y_M_sourceBreaks (Cond.code y_M_sourceBreaks b_M_sourceBreaks 7 (some .boolean) :: zTT) (zrm 1 24) D zcl (zKK D ca) (zwM ad ca) σ [.ref (ad 30), .int x1, .int x2, .int x3] (fn_M_sourceBreaks x1 x2 x3 σ) := by
  refine zmk_z (tys := zty ca) (by decide) (zKK_m D ca) (fun _ h => h.1) (Nat.le_of_ble_eq_true rfl) (fun V ex hX hR => ?_)
  show zJ V (fn_M_sourceBreaks_3 100 x1 x2 x3 (0 : Int32) σ) (zwM ad ca σ ++ ex) 0 [(0, .ref (ad 30)), (1, .int x1), (2, .int x2), (3, .int x3)] []
  refine z_iconst (v := 0) hX d_M_sourceBreaks_0 (by decide) ?_
  refine z_istore (i := 4) (lv2 := [(4, .int (0 : Int32)), (0, .ref (ad 30)), (1, .int x1), (2, .int x2), (3, .int x3)]) hX d_M_sourceBreaks_1 (by decide) rfl ?_
  refine z_lv hX [1, 2, 3, 4, 0] (lv2 := [(0, .ref (ad 30)), (1, .int x1), (2, .int x2), (3, .int x3), (4, .int (0 : Int32))]) rfl ?_
  exact bk_M_sourceBreaks_3 l D ad ca hX hR 100 _ _ _ _ _
