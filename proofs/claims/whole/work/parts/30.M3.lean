def fn_M_isLate_2 : Nat → Int32 → Int32 → Int32 → zS → Option (Int32 × zS)
  | 0, _, _, _, _ => none
  | n + 1, x1, x2, x3, σ => zgd (zin x1 32) (if x3 < (σ.1 44 x1.toNatClampNeg) then zgd (zin (((6 : Int32) * x1) + x3) 192) (zb (fn_M_meets (σ.2 36 (((6 : Int32) * x1) + x3).toNatClampNeg) σ) (fun r24 s24 => if r24 = (-1 : Int32) then fn_M_isLate_2 n x1 x2 (x3 + 1) s24 else zgd (zin r24 32) (zgd (zin x1 32) (if x2 < ((s24.1 41 r24.toNatClampNeg) - (s24.1 41 x1.toNatClampNeg)) then some ((1 : Int32), s24) else fn_M_isLate_2 n x1 x2 (x3 + 1) s24)))) else some ((0 : Int32), σ))
set_option maxRecDepth 100000 in
set_option maxHeartbeats 4000000 in
theorem bk_M_isLate_2 (l : Launch) (D : va_G) (ad : Nat → Nat) (ca : Nat → ClassId) {V : zV Int32} {ex : va_W} (hX : zIs V l b_M_isLate R_M zTT (zKK D ca) D zcl (zty ca) 5 (zrm 1 23)) (hR : zRz V b_M_isLate (zwM ad ca) ex) : ∀ (n : Nat) (x1 : Int32) (x2 : Int32) (x3 : Int32) (σ : zS), zJ V (fn_M_isLate_2 n x1 x2 x3 σ) (zwM ad ca σ ++ ex) 2 [(0, .ref (ad 30)), (1, .int x1), (2, .int x2), (3, .int x3)] [] := by
  intro n
  induction n with
  | zero => intros; exact z_none
  | succ n ih =>
    intro x1 x2 x3 σ
    show zJ V (zgd (zin x1 32) (if x3 < (σ.1 44 x1.toNatClampNeg) then zgd (zin (((6 : Int32) * x1) + x3) 192) (zb (fn_M_meets (σ.2 36 (((6 : Int32) * x1) + x3).toNatClampNeg) σ) (fun r24 s24 => if r24 = (-1 : Int32) then fn_M_isLate_2 n x1 x2 (x3 + 1) s24 else zgd (zin r24 32) (zgd (zin x1 32) (if x2 < ((s24.1 41 r24.toNatClampNeg) - (s24.1 41 x1.toNatClampNeg)) then some ((1 : Int32), s24) else fn_M_isLate_2 n x1 x2 (x3 + 1) s24)))) else some ((0 : Int32), σ))) _ _ _ _
    refine z_iload_n (i := 3) hX d_M_isLate_2 rfl rfl ?_
    refine z_aload_n (i := 0) hX d_M_isLate_3 rfl rfl ?_
    refine z_get (C := R_M) (T := F_M) (N := 27) hX in_M 0 rfl rfl 16 (by decide) w_field_M_51_M_16 rfl d_M_isLate_4 ?_
    refine z_iload_n (i := 1) hX d_M_isLate_7 rfl rfl ?_
    refine z_iald hX 14 34 rfl rfl d_M_isLate_8 ?_
    refine z_icmp_ge (tgt := 61) hX d_M_isLate_9 (by decide) (fun c9 => ?_) (fun c9 => ?_)
    · refine z_aload_n (i := 0) hX d_M_isLate_12 rfl rfl ?_
      refine z_aload_n (i := 0) hX d_M_isLate_13 rfl rfl ?_
      refine z_get (C := R_M) (T := F_M) (N := 27) hX in_M 0 rfl rfl 8 (by decide) w_field_M_27_M_8 rfl d_M_isLate_14 ?_
      refine z_bipush (v := 6) hX d_M_isLate_17 (by decide) ?_
      refine z_iload_n (i := 1) hX d_M_isLate_19 rfl rfl ?_
      refine z_imul hX d_M_isLate_20 ?_
      refine z_iload_n (i := 3) hX d_M_isLate_21 rfl rfl ?_
      refine z_iadd hX d_M_isLate_22 ?_
      refine z_lald hX 6 26 rfl rfl d_M_isLate_23 ?_
      refine z_callVi (wl := zwM ad ca) (C := R_M) (n := 1) (rest := []) hX [.long (σ.2 36 (((6 : Int32) * x1) + x3).toNatClampNeg)] (ct_M_meets l D ad ca (σ.2 36 (((6 : Int32) * x1) + x3).toNatClampNeg) σ) gV_M_113 ⟨rfl, rfl⟩ ⟨by decide, by decide⟩ (by decide +kernel) rfl 0 rfl rfl rfl rfl (Nat.le_of_ble_eq_true rfl) d_M_isLate_24 (fun r24 s24 => ?_)
      refine z_istore (i := 4) (lv2 := [(4, .int r24), (0, .ref (ad 30)), (1, .int x1), (2, .int x2), (3, .int x3)]) hX d_M_isLate_27 (by decide) rfl ?_
      refine z_iload (i := 4) hX d_M_isLate_29 rfl ?_
      refine z_iconst (v := -1) hX d_M_isLate_31 (by decide) ?_
      refine z_icmp_eq (tgt := 55) hX d_M_isLate_32 (by decide) (fun c32 => ?_) (fun c32 => ?_)
      · refine z_iinc (v := x3 + 1) (lv2 := [(3, .int (x3 + 1)), (4, .int r24), (0, .ref (ad 30)), (1, .int x1), (2, .int x2)]) hX d_M_isLate_55 4 rfl (by first | rfl | decide) (by decide) rfl ?_
        refine z_goto (tgt := 2) hX d_M_isLate_58 (by decide) ?_
        refine z_lv hX [2, 3, 4, 0] (lv2 := [(0, .ref (ad 30)), (1, .int x1), (2, .int x2), (3, .int (x3 + 1))]) rfl ?_
        exact ih _ _ _ _
      · refine z_aload_n (i := 0) hX d_M_isLate_35 rfl rfl ?_
        refine z_get (C := R_M) (T := F_M) (N := 27) hX in_M 0 rfl rfl 13 (by decide) w_field_M_42_M_13 rfl d_M_isLate_36 ?_
        refine z_iload (i := 4) hX d_M_isLate_39 rfl ?_
        refine z_iald hX 11 31 rfl rfl d_M_isLate_41 ?_
        refine z_aload_n (i := 0) hX d_M_isLate_42 rfl rfl ?_
        refine z_get (C := R_M) (T := F_M) (N := 27) hX in_M 0 rfl rfl 13 (by decide) w_field_M_42_M_13 rfl d_M_isLate_43 ?_
        refine z_iload_n (i := 1) hX d_M_isLate_46 rfl rfl ?_
        refine z_iald hX 11 31 rfl rfl d_M_isLate_47 ?_
        refine z_isub hX d_M_isLate_48 ?_
        refine z_iload_n (i := 2) hX d_M_isLate_49 rfl rfl ?_
        refine z_icmp_le (tgt := 55) hX d_M_isLate_50 (by decide) (fun c50 => ?_) (fun c50 => ?_)
        · refine z_iconst (v := 1) hX d_M_isLate_53 (by decide) ?_
          exact z_zret hR rfl d_M_isLate_54
        · refine z_iinc (v := x3 + 1) (lv2 := [(3, .int (x3 + 1)), (4, .int r24), (0, .ref (ad 30)), (1, .int x1), (2, .int x2)]) hX d_M_isLate_55 4 rfl (by first | rfl | decide) (by decide) rfl ?_
          refine z_goto (tgt := 2) hX d_M_isLate_58 (by decide) ?_
          refine z_lv hX [2, 3, 4, 0] (lv2 := [(0, .ref (ad 30)), (1, .int x1), (2, .int x2), (3, .int (x3 + 1))]) rfl ?_
          exact ih _ _ _ _
    · refine z_iconst (v := 0) hX d_M_isLate_61 (by decide) ?_
      exact z_zret hR rfl d_M_isLate_62
def fn_M_isLate (x1 : Int32) (x2 : Int32) (σ : zS) : Option (Int32 × zS) := fn_M_isLate_2 100 x1 x2 (0 : Int32) σ
set_option maxRecDepth 100000 in
set_option maxHeartbeats 4000000 in
theorem ct_M_isLate (l : Launch) (D : va_G) (ad : Nat → Nat) (ca : Nat → ClassId) (x1 : Int32) (x2 : Int32) (σ : zS) : zC zemI l y_M_isLate (Cond.code y_M_isLate b_M_isLate 5 (some .boolean) :: zTT) (zrm 1 23) D zcl (zKK D ca) (zwM ad ca) σ [.ref (ad 30), .int x1, .int x2] (fn_M_isLate x1 x2 σ) := by
  refine zmk_z (tys := zty ca) (by decide) (zKK_m D ca) (fun _ h => h.1) (Nat.le_of_ble_eq_true rfl) (fun V ex hX hR => ?_)
  show zJ V (fn_M_isLate_2 100 x1 x2 (0 : Int32) σ) (zwM ad ca σ ++ ex) 0 [(0, .ref (ad 30)), (1, .int x1), (2, .int x2)] []
  refine z_iconst (v := 0) hX d_M_isLate_0 (by decide) ?_
  refine z_istore_n (i := 3) (lv2 := [(3, .int (0 : Int32)), (0, .ref (ad 30)), (1, .int x1), (2, .int x2)]) hX d_M_isLate_1 rfl (by decide) rfl ?_
  refine z_lv hX [1, 2, 3, 0] (lv2 := [(0, .ref (ad 30)), (1, .int x1), (2, .int x2), (3, .int (0 : Int32))]) rfl ?_
  exact bk_M_isLate_2 l D ad ca hX hR 100 _ _ _ _
def fn_M_agree_126 : Nat → Int32 → Int32 → Int32 → Int32 → zS → Option (Int32 × zS)
  | 0, _, _, _, _, _ => none
  | n + 1, x1, x2, x3, x4, σ => zgd (zin x1 32) (if x4 < (σ.1 44 x1.toNatClampNeg) then if x3 = 0 then zgd (zbo x3) (some (x3, σ)) else zgd (zin (((6 : Int32) * x1) + x4) 192) (zgd (zin (((6 : Int32) * x2) + x4) 192) (if (lg_cmp (σ.2 36 (((6 : Int32) * x1) + x4).toNatClampNeg) (σ.2 36 (((6 : Int32) * x2) + x4).toNatClampNeg)) = 0 then fn_M_agree_126 n x1 x2 (1 : Int32) (x4 + 1) σ else fn_M_agree_126 n x1 x2 (0 : Int32) (x4 + 1) σ)) else zgd (zbo x3) (some (x3, σ)))
set_option maxRecDepth 100000 in
set_option maxHeartbeats 4000000 in
theorem bk_M_agree_126 (l : Launch) (D : va_G) (ad : Nat → Nat) (ca : Nat → ClassId) {V : zV Int32} {ex : va_W} (hX : zIs V l b_M_agree R_M zTT (zKK D ca) D zcl (zty ca) 5 (zrm 0 0)) (hR : zRz V b_M_agree (zwM ad ca) ex) : ∀ (n : Nat) (x1 : Int32) (x2 : Int32) (x3 : Int32) (x4 : Int32) (σ : zS), zJ V (fn_M_agree_126 n x1 x2 x3 x4 σ) (zwM ad ca σ ++ ex) 126 [(0, .ref (ad 30)), (1, .int x1), (2, .int x2), (3, .int x3), (4, .int x4)] [] := by
  intro n
  induction n with
  | zero => intros; exact z_none
  | succ n ih =>
    intro x1 x2 x3 x4 σ
    show zJ V (zgd (zin x1 32) (if x4 < (σ.1 44 x1.toNatClampNeg) then if x3 = 0 then zgd (zbo x3) (some (x3, σ)) else zgd (zin (((6 : Int32) * x1) + x4) 192) (zgd (zin (((6 : Int32) * x2) + x4) 192) (if (lg_cmp (σ.2 36 (((6 : Int32) * x1) + x4).toNatClampNeg) (σ.2 36 (((6 : Int32) * x2) + x4).toNatClampNeg)) = 0 then fn_M_agree_126 n x1 x2 (1 : Int32) (x4 + 1) σ else fn_M_agree_126 n x1 x2 (0 : Int32) (x4 + 1) σ)) else zgd (zbo x3) (some (x3, σ)))) _ _ _ _
    refine z_iload (i := 4) hX d_M_agree_126 rfl ?_
    refine z_aload_n (i := 0) hX d_M_agree_128 rfl rfl ?_
    refine z_get (C := R_M) (T := F_M) (N := 27) hX in_M 0 rfl rfl 16 (by decide) w_field_M_51_M_16 rfl d_M_agree_129 ?_
    refine z_iload_n (i := 1) hX d_M_agree_132 rfl rfl ?_
    refine z_iald hX 14 34 rfl rfl d_M_agree_133 ?_
    refine z_icmp_ge (tgt := 181) hX d_M_agree_134 (by decide) (fun c134 => ?_) (fun c134 => ?_)
    · refine z_iload_n (i := 3) hX d_M_agree_137 rfl rfl ?_
      refine z_if_eq (tgt := 181) hX d_M_agree_138 (by decide) (fun c138 => ?_) (fun c138 => ?_)
      · refine z_iload_n (i := 3) hX d_M_agree_181 rfl rfl ?_
        exact z_zretg hR d_M_agree_182
      · refine z_aload_n (i := 0) hX d_M_agree_141 rfl rfl ?_
        refine z_get (C := R_M) (T := F_M) (N := 27) hX in_M 0 rfl rfl 8 (by decide) w_field_M_27_M_8 rfl d_M_agree_142 ?_
        refine z_bipush (v := 6) hX d_M_agree_145 (by decide) ?_
        refine z_iload_n (i := 1) hX d_M_agree_147 rfl rfl ?_
        refine z_imul hX d_M_agree_148 ?_
        refine z_iload (i := 4) hX d_M_agree_149 rfl ?_
        refine z_iadd hX d_M_agree_151 ?_
        refine z_lald hX 6 26 rfl rfl d_M_agree_152 ?_
        refine z_aload_n (i := 0) hX d_M_agree_153 rfl rfl ?_
        refine z_get (C := R_M) (T := F_M) (N := 27) hX in_M 0 rfl rfl 8 (by decide) w_field_M_27_M_8 rfl d_M_agree_154 ?_
        refine z_bipush (v := 6) hX d_M_agree_157 (by decide) ?_
        refine z_iload_n (i := 2) hX d_M_agree_159 rfl rfl ?_
        refine z_imul hX d_M_agree_160 ?_
        refine z_iload (i := 4) hX d_M_agree_161 rfl ?_
        refine z_iadd hX d_M_agree_163 ?_
        refine z_lald hX 6 26 rfl rfl d_M_agree_164 ?_
        refine z_lcmp hX d_M_agree_165 ?_
        refine z_if_ne (tgt := 173) hX d_M_agree_166 (by decide) (fun c166 => ?_) (fun c166 => ?_)
        · refine z_iconst (v := 1) hX d_M_agree_169 (by decide) ?_
          refine z_goto (tgt := 174) hX d_M_agree_170 (by decide) ?_
          refine z_istore_n (i := 3) (lv2 := [(3, .int (1 : Int32)), (0, .ref (ad 30)), (1, .int x1), (2, .int x2), (4, .int x4)]) hX d_M_agree_174 rfl (by decide) rfl ?_
          refine z_iinc (v := x4 + 1) (lv2 := [(4, .int (x4 + 1)), (3, .int (1 : Int32)), (0, .ref (ad 30)), (1, .int x1), (2, .int x2)]) hX d_M_agree_175 4 rfl (by first | rfl | decide) (by decide) rfl ?_
          refine z_goto (tgt := 126) hX d_M_agree_178 (by decide) ?_
          refine z_lv hX [2, 3, 4, 1, 0] (lv2 := [(0, .ref (ad 30)), (1, .int x1), (2, .int x2), (3, .int (1 : Int32)), (4, .int (x4 + 1))]) rfl ?_
          exact ih _ _ _ _ _
        · refine z_iconst (v := 0) hX d_M_agree_173 (by decide) ?_
          refine z_istore_n (i := 3) (lv2 := [(3, .int (0 : Int32)), (0, .ref (ad 30)), (1, .int x1), (2, .int x2), (4, .int x4)]) hX d_M_agree_174 rfl (by decide) rfl ?_
          refine z_iinc (v := x4 + 1) (lv2 := [(4, .int (x4 + 1)), (3, .int (0 : Int32)), (0, .ref (ad 30)), (1, .int x1), (2, .int x2)]) hX d_M_agree_175 4 rfl (by first | rfl | decide) (by decide) rfl ?_
          refine z_goto (tgt := 126) hX d_M_agree_178 (by decide) ?_
          refine z_lv hX [2, 3, 4, 1, 0] (lv2 := [(0, .ref (ad 30)), (1, .int x1), (2, .int x2), (3, .int (0 : Int32)), (4, .int (x4 + 1))]) rfl ?_
          exact ih _ _ _ _ _
    · refine z_iload_n (i := 3) hX d_M_agree_181 rfl rfl ?_
      exact z_zretg hR d_M_agree_182
def fn_M_agree_69 : Nat → Int32 → Int32 → Int32 → Int32 → zS → Option (Int32 × zS)
  | 0, _, _, _, _, _ => none
  | n + 1, x1, x2, x3, x4, σ => zgd (zin x1 32) (if x4 < (σ.1 42 x1.toNatClampNeg) then if x3 = 0 then fn_M_agree_126 100 x1 x2 x3 (0 : Int32) σ else zgd (zin (((6 : Int32) * x1) + x4) 192) (zgd (zin (((6 : Int32) * x2) + x4) 192) (if (σ.1 43 (((6 : Int32) * x1) + x4).toNatClampNeg) = (σ.1 43 (((6 : Int32) * x2) + x4).toNatClampNeg) then fn_M_agree_69 n x1 x2 (1 : Int32) (x4 + 1) σ else fn_M_agree_69 n x1 x2 (0 : Int32) (x4 + 1) σ)) else fn_M_agree_126 100 x1 x2 x3 (0 : Int32) σ)
set_option maxRecDepth 100000 in
set_option maxHeartbeats 4000000 in
theorem bk_M_agree_69 (l : Launch) (D : va_G) (ad : Nat → Nat) (ca : Nat → ClassId) {V : zV Int32} {ex : va_W} (hX : zIs V l b_M_agree R_M zTT (zKK D ca) D zcl (zty ca) 5 (zrm 0 0)) (hR : zRz V b_M_agree (zwM ad ca) ex) : ∀ (n : Nat) (x1 : Int32) (x2 : Int32) (x3 : Int32) (x4 : Int32) (σ : zS), zJ V (fn_M_agree_69 n x1 x2 x3 x4 σ) (zwM ad ca σ ++ ex) 69 [(0, .ref (ad 30)), (1, .int x1), (2, .int x2), (3, .int x3), (4, .int x4)] [] := by
  intro n
  induction n with
  | zero => intros; exact z_none
  | succ n ih =>
    intro x1 x2 x3 x4 σ
    show zJ V (zgd (zin x1 32) (if x4 < (σ.1 42 x1.toNatClampNeg) then if x3 = 0 then fn_M_agree_126 100 x1 x2 x3 (0 : Int32) σ else zgd (zin (((6 : Int32) * x1) + x4) 192) (zgd (zin (((6 : Int32) * x2) + x4) 192) (if (σ.1 43 (((6 : Int32) * x1) + x4).toNatClampNeg) = (σ.1 43 (((6 : Int32) * x2) + x4).toNatClampNeg) then fn_M_agree_69 n x1 x2 (1 : Int32) (x4 + 1) σ else fn_M_agree_69 n x1 x2 (0 : Int32) (x4 + 1) σ)) else fn_M_agree_126 100 x1 x2 x3 (0 : Int32) σ)) _ _ _ _
    refine z_iload (i := 4) hX d_M_agree_69 rfl ?_
    refine z_aload_n (i := 0) hX d_M_agree_71 rfl rfl ?_
    refine z_get (C := R_M) (T := F_M) (N := 27) hX in_M 0 rfl rfl 14 (by decide) w_field_M_45_M_14 rfl d_M_agree_72 ?_
    refine z_iload_n (i := 1) hX d_M_agree_75 rfl rfl ?_
    refine z_iald hX 12 32 rfl rfl d_M_agree_76 ?_
    refine z_icmp_ge (tgt := 123) hX d_M_agree_77 (by decide) (fun c77 => ?_) (fun c77 => ?_)
    · refine z_iload_n (i := 3) hX d_M_agree_80 rfl rfl ?_
      refine z_if_eq (tgt := 123) hX d_M_agree_81 (by decide) (fun c81 => ?_) (fun c81 => ?_)
      · refine z_iconst (v := 0) hX d_M_agree_123 (by decide) ?_
        refine z_istore (i := 4) (lv2 := [(4, .int (0 : Int32)), (0, .ref (ad 30)), (1, .int x1), (2, .int x2), (3, .int x3)]) hX d_M_agree_124 (by decide) rfl ?_
        refine z_lv hX [1, 2, 3, 4, 0] (lv2 := [(0, .ref (ad 30)), (1, .int x1), (2, .int x2), (3, .int x3), (4, .int (0 : Int32))]) rfl ?_
        exact bk_M_agree_126 l D ad ca hX hR 100 _ _ _ _ _
      · refine z_aload_n (i := 0) hX d_M_agree_84 rfl rfl ?_
        refine z_get (C := R_M) (T := F_M) (N := 27) hX in_M 0 rfl rfl 15 (by decide) w_field_M_48_M_15 rfl d_M_agree_85 ?_
        refine z_bipush (v := 6) hX d_M_agree_88 (by decide) ?_
        refine z_iload_n (i := 1) hX d_M_agree_90 rfl rfl ?_
        refine z_imul hX d_M_agree_91 ?_
        refine z_iload (i := 4) hX d_M_agree_92 rfl ?_
        refine z_iadd hX d_M_agree_94 ?_
        refine z_iald hX 13 33 rfl rfl d_M_agree_95 ?_
        refine z_aload_n (i := 0) hX d_M_agree_96 rfl rfl ?_
        refine z_get (C := R_M) (T := F_M) (N := 27) hX in_M 0 rfl rfl 15 (by decide) w_field_M_48_M_15 rfl d_M_agree_97 ?_
        refine z_bipush (v := 6) hX d_M_agree_100 (by decide) ?_
        refine z_iload_n (i := 2) hX d_M_agree_102 rfl rfl ?_
        refine z_imul hX d_M_agree_103 ?_
        refine z_iload (i := 4) hX d_M_agree_104 rfl ?_
        refine z_iadd hX d_M_agree_106 ?_
        refine z_iald hX 13 33 rfl rfl d_M_agree_107 ?_
        refine z_icmp_ne (tgt := 115) hX d_M_agree_108 (by decide) (fun c108 => ?_) (fun c108 => ?_)
        · refine z_iconst (v := 1) hX d_M_agree_111 (by decide) ?_
          refine z_goto (tgt := 116) hX d_M_agree_112 (by decide) ?_
          refine z_istore_n (i := 3) (lv2 := [(3, .int (1 : Int32)), (0, .ref (ad 30)), (1, .int x1), (2, .int x2), (4, .int x4)]) hX d_M_agree_116 rfl (by decide) rfl ?_
          refine z_iinc (v := x4 + 1) (lv2 := [(4, .int (x4 + 1)), (3, .int (1 : Int32)), (0, .ref (ad 30)), (1, .int x1), (2, .int x2)]) hX d_M_agree_117 4 rfl (by first | rfl | decide) (by decide) rfl ?_
          refine z_goto (tgt := 69) hX d_M_agree_120 (by decide) ?_
          refine z_lv hX [2, 3, 4, 1, 0] (lv2 := [(0, .ref (ad 30)), (1, .int x1), (2, .int x2), (3, .int (1 : Int32)), (4, .int (x4 + 1))]) rfl ?_
          exact ih _ _ _ _ _
        · refine z_iconst (v := 0) hX d_M_agree_115 (by decide) ?_
          refine z_istore_n (i := 3) (lv2 := [(3, .int (0 : Int32)), (0, .ref (ad 30)), (1, .int x1), (2, .int x2), (4, .int x4)]) hX d_M_agree_116 rfl (by decide) rfl ?_
          refine z_iinc (v := x4 + 1) (lv2 := [(4, .int (x4 + 1)), (3, .int (0 : Int32)), (0, .ref (ad 30)), (1, .int x1), (2, .int x2)]) hX d_M_agree_117 4 rfl (by first | rfl | decide) (by decide) rfl ?_
          refine z_goto (tgt := 69) hX d_M_agree_120 (by decide) ?_
          refine z_lv hX [2, 3, 4, 1, 0] (lv2 := [(0, .ref (ad 30)), (1, .int x1), (2, .int x2), (3, .int (0 : Int32)), (4, .int (x4 + 1))]) rfl ?_
          exact ih _ _ _ _ _
    · refine z_iconst (v := 0) hX d_M_agree_123 (by decide) ?_
      refine z_istore (i := 4) (lv2 := [(4, .int (0 : Int32)), (0, .ref (ad 30)), (1, .int x1), (2, .int x2), (3, .int x3)]) hX d_M_agree_124 (by decide) rfl ?_
      refine z_lv hX [1, 2, 3, 4, 0] (lv2 := [(0, .ref (ad 30)), (1, .int x1), (2, .int x2), (3, .int x3), (4, .int (0 : Int32))]) rfl ?_
      exact bk_M_agree_126 l D ad ca hX hR 100 _ _ _ _ _
def fn_M_agree (x1 : Int32) (x2 : Int32) (σ : zS) : Option (Int32 × zS) := zgd (zin x1 32) (zgd (zin x2 32) (if (σ.1 38 x1.toNatClampNeg) = (σ.1 38 x2.toNatClampNeg) then zgd (zin x1 32) (zgd (zin x2 32) (if (σ.1 39 x1.toNatClampNeg) = (σ.1 39 x2.toNatClampNeg) then zgd (zin x1 32) (zgd (zin x2 32) (if (σ.1 42 x1.toNatClampNeg) = (σ.1 42 x2.toNatClampNeg) then zgd (zin x1 32) (zgd (zin x2 32) (if (σ.1 44 x1.toNatClampNeg) = (σ.1 44 x2.toNatClampNeg) then fn_M_agree_69 100 x1 x2 (1 : Int32) (0 : Int32) σ else fn_M_agree_69 100 x1 x2 (0 : Int32) (0 : Int32) σ)) else fn_M_agree_69 100 x1 x2 (0 : Int32) (0 : Int32) σ)) else fn_M_agree_69 100 x1 x2 (0 : Int32) (0 : Int32) σ)) else fn_M_agree_69 100 x1 x2 (0 : Int32) (0 : Int32) σ))
set_option maxRecDepth 100000 in
set_option maxHeartbeats 4000000 in
theorem ct_M_agree (l : Launch) (D : va_G) (ad : Nat → Nat) (ca : Nat → ClassId) (x1 : Int32) (x2 : Int32) (σ : zS) : zC zemI l y_M_agree (Cond.code y_M_agree b_M_agree 5 (some .boolean) :: zTT) (zrm 0 0) D zcl (zKK D ca) (zwM ad ca) σ [.ref (ad 30), .int x1, .int x2] (fn_M_agree x1 x2 σ) := by
  refine zmk_z (tys := zty ca) (by decide) (zKK_m D ca) (fun _ h => h.1) (Nat.le_of_ble_eq_true rfl) (fun V ex hX hR => ?_)
  show zJ V (zgd (zin x1 32) (zgd (zin x2 32) (if (σ.1 38 x1.toNatClampNeg) = (σ.1 38 x2.toNatClampNeg) then zgd (zin x1 32) (zgd (zin x2 32) (if (σ.1 39 x1.toNatClampNeg) = (σ.1 39 x2.toNatClampNeg) then zgd (zin x1 32) (zgd (zin x2 32) (if (σ.1 42 x1.toNatClampNeg) = (σ.1 42 x2.toNatClampNeg) then zgd (zin x1 32) (zgd (zin x2 32) (if (σ.1 44 x1.toNatClampNeg) = (σ.1 44 x2.toNatClampNeg) then fn_M_agree_69 100 x1 x2 (1 : Int32) (0 : Int32) σ else fn_M_agree_69 100 x1 x2 (0 : Int32) (0 : Int32) σ)) else fn_M_agree_69 100 x1 x2 (0 : Int32) (0 : Int32) σ)) else fn_M_agree_69 100 x1 x2 (0 : Int32) (0 : Int32) σ)) else fn_M_agree_69 100 x1 x2 (0 : Int32) (0 : Int32) σ))) (zwM ad ca σ ++ ex) 0 [(0, .ref (ad 30)), (1, .int x1), (2, .int x2)] []
  refine z_aload_n (i := 0) hX d_M_agree_0 rfl rfl ?_
  refine z_get (C := R_M) (T := F_M) (N := 27) hX in_M 0 rfl rfl 10 (by decide) w_field_M_33_M_10 rfl d_M_agree_1 ?_
  refine z_iload_n (i := 1) hX d_M_agree_4 rfl rfl ?_
  refine z_iald hX 8 28 rfl rfl d_M_agree_5 ?_
  refine z_aload_n (i := 0) hX d_M_agree_6 rfl rfl ?_
  refine z_get (C := R_M) (T := F_M) (N := 27) hX in_M 0 rfl rfl 10 (by decide) w_field_M_33_M_10 rfl d_M_agree_7 ?_
  refine z_iload_n (i := 2) hX d_M_agree_10 rfl rfl ?_
  refine z_iald hX 8 28 rfl rfl d_M_agree_11 ?_
  refine z_icmp_ne (tgt := 64) hX d_M_agree_12 (by decide) (fun c12 => ?_) (fun c12 => ?_)
  · refine z_aload_n (i := 0) hX d_M_agree_15 rfl rfl ?_
    refine z_get (C := R_M) (T := F_M) (N := 27) hX in_M 0 rfl rfl 11 (by decide) w_field_M_36_M_11 rfl d_M_agree_16 ?_
    refine z_iload_n (i := 1) hX d_M_agree_19 rfl rfl ?_
    refine z_iald hX 9 29 rfl rfl d_M_agree_20 ?_
    refine z_aload_n (i := 0) hX d_M_agree_21 rfl rfl ?_
    refine z_get (C := R_M) (T := F_M) (N := 27) hX in_M 0 rfl rfl 11 (by decide) w_field_M_36_M_11 rfl d_M_agree_22 ?_
    refine z_iload_n (i := 2) hX d_M_agree_25 rfl rfl ?_
    refine z_iald hX 9 29 rfl rfl d_M_agree_26 ?_
    refine z_icmp_ne (tgt := 64) hX d_M_agree_27 (by decide) (fun c27 => ?_) (fun c27 => ?_)
    · refine z_aload_n (i := 0) hX d_M_agree_30 rfl rfl ?_
      refine z_get (C := R_M) (T := F_M) (N := 27) hX in_M 0 rfl rfl 14 (by decide) w_field_M_45_M_14 rfl d_M_agree_31 ?_
      refine z_iload_n (i := 1) hX d_M_agree_34 rfl rfl ?_
      refine z_iald hX 12 32 rfl rfl d_M_agree_35 ?_
      refine z_aload_n (i := 0) hX d_M_agree_36 rfl rfl ?_
      refine z_get (C := R_M) (T := F_M) (N := 27) hX in_M 0 rfl rfl 14 (by decide) w_field_M_45_M_14 rfl d_M_agree_37 ?_
      refine z_iload_n (i := 2) hX d_M_agree_40 rfl rfl ?_
      refine z_iald hX 12 32 rfl rfl d_M_agree_41 ?_
      refine z_icmp_ne (tgt := 64) hX d_M_agree_42 (by decide) (fun c42 => ?_) (fun c42 => ?_)
      · refine z_aload_n (i := 0) hX d_M_agree_45 rfl rfl ?_
        refine z_get (C := R_M) (T := F_M) (N := 27) hX in_M 0 rfl rfl 16 (by decide) w_field_M_51_M_16 rfl d_M_agree_46 ?_
        refine z_iload_n (i := 1) hX d_M_agree_49 rfl rfl ?_
        refine z_iald hX 14 34 rfl rfl d_M_agree_50 ?_
        refine z_aload_n (i := 0) hX d_M_agree_51 rfl rfl ?_
        refine z_get (C := R_M) (T := F_M) (N := 27) hX in_M 0 rfl rfl 16 (by decide) w_field_M_51_M_16 rfl d_M_agree_52 ?_
        refine z_iload_n (i := 2) hX d_M_agree_55 rfl rfl ?_
        refine z_iald hX 14 34 rfl rfl d_M_agree_56 ?_
        refine z_icmp_ne (tgt := 64) hX d_M_agree_57 (by decide) (fun c57 => ?_) (fun c57 => ?_)
        · refine z_iconst (v := 1) hX d_M_agree_60 (by decide) ?_
          refine z_goto (tgt := 65) hX d_M_agree_61 (by decide) ?_
          refine z_istore_n (i := 3) (lv2 := [(3, .int (1 : Int32)), (0, .ref (ad 30)), (1, .int x1), (2, .int x2)]) hX d_M_agree_65 rfl (by decide) rfl ?_
          refine z_iconst (v := 0) hX d_M_agree_66 (by decide) ?_
          refine z_istore (i := 4) (lv2 := [(4, .int (0 : Int32)), (3, .int (1 : Int32)), (0, .ref (ad 30)), (1, .int x1), (2, .int x2)]) hX d_M_agree_67 (by decide) rfl ?_
          refine z_lv hX [2, 3, 4, 1, 0] (lv2 := [(0, .ref (ad 30)), (1, .int x1), (2, .int x2), (3, .int (1 : Int32)), (4, .int (0 : Int32))]) rfl ?_
          exact bk_M_agree_69 l D ad ca hX hR 100 _ _ _ _ _
        · refine z_iconst (v := 0) hX d_M_agree_64 (by decide) ?_
          refine z_istore_n (i := 3) (lv2 := [(3, .int (0 : Int32)), (0, .ref (ad 30)), (1, .int x1), (2, .int x2)]) hX d_M_agree_65 rfl (by decide) rfl ?_
          refine z_iconst (v := 0) hX d_M_agree_66 (by decide) ?_
          refine z_istore (i := 4) (lv2 := [(4, .int (0 : Int32)), (3, .int (0 : Int32)), (0, .ref (ad 30)), (1, .int x1), (2, .int x2)]) hX d_M_agree_67 (by decide) rfl ?_
          refine z_lv hX [2, 3, 4, 1, 0] (lv2 := [(0, .ref (ad 30)), (1, .int x1), (2, .int x2), (3, .int (0 : Int32)), (4, .int (0 : Int32))]) rfl ?_
          exact bk_M_agree_69 l D ad ca hX hR 100 _ _ _ _ _
      · refine z_iconst (v := 0) hX d_M_agree_64 (by decide) ?_
        refine z_istore_n (i := 3) (lv2 := [(3, .int (0 : Int32)), (0, .ref (ad 30)), (1, .int x1), (2, .int x2)]) hX d_M_agree_65 rfl (by decide) rfl ?_
        refine z_iconst (v := 0) hX d_M_agree_66 (by decide) ?_
        refine z_istore (i := 4) (lv2 := [(4, .int (0 : Int32)), (3, .int (0 : Int32)), (0, .ref (ad 30)), (1, .int x1), (2, .int x2)]) hX d_M_agree_67 (by decide) rfl ?_
        refine z_lv hX [2, 3, 4, 1, 0] (lv2 := [(0, .ref (ad 30)), (1, .int x1), (2, .int x2), (3, .int (0 : Int32)), (4, .int (0 : Int32))]) rfl ?_
        exact bk_M_agree_69 l D ad ca hX hR 100 _ _ _ _ _
    · refine z_iconst (v := 0) hX d_M_agree_64 (by decide) ?_
      refine z_istore_n (i := 3) (lv2 := [(3, .int (0 : Int32)), (0, .ref (ad 30)), (1, .int x1), (2, .int x2)]) hX d_M_agree_65 rfl (by decide) rfl ?_
      refine z_iconst (v := 0) hX d_M_agree_66 (by decide) ?_
      refine z_istore (i := 4) (lv2 := [(4, .int (0 : Int32)), (3, .int (0 : Int32)), (0, .ref (ad 30)), (1, .int x1), (2, .int x2)]) hX d_M_agree_67 (by decide) rfl ?_
      refine z_lv hX [2, 3, 4, 1, 0] (lv2 := [(0, .ref (ad 30)), (1, .int x1), (2, .int x2), (3, .int (0 : Int32)), (4, .int (0 : Int32))]) rfl ?_
      exact bk_M_agree_69 l D ad ca hX hR 100 _ _ _ _ _
  · refine z_iconst (v := 0) hX d_M_agree_64 (by decide) ?_
    refine z_istore_n (i := 3) (lv2 := [(3, .int (0 : Int32)), (0, .ref (ad 30)), (1, .int x1), (2, .int x2)]) hX d_M_agree_65 rfl (by decide) rfl ?_
    refine z_iconst (v := 0) hX d_M_agree_66 (by decide) ?_
    refine z_istore (i := 4) (lv2 := [(4, .int (0 : Int32)), (3, .int (0 : Int32)), (0, .ref (ad 30)), (1, .int x1), (2, .int x2)]) hX d_M_agree_67 (by decide) rfl ?_
    refine z_lv hX [2, 3, 4, 1, 0] (lv2 := [(0, .ref (ad 30)), (1, .int x1), (2, .int x2), (3, .int (0 : Int32)), (4, .int (0 : Int32))]) rfl ?_
    exact bk_M_agree_69 l D ad ca hX hR 100 _ _ _ _ _
def fn_M_isClash (x1 : Int32) (x2 : Int32) (σ : zS) : Option (Int32 × zS) := zgd (zin x1 32) (zgd (zin x2 32) (if (lg_cmp (σ.2 35 x1.toNatClampNeg) (σ.2 35 x2.toNatClampNeg)) = 0 then zb (fn_M_agree x1 x2 σ) (fun r19 s19 => if r19 = 0 then some ((1 : Int32), s19) else some ((0 : Int32), s19)) else some ((0 : Int32), σ)))
set_option maxRecDepth 100000 in
set_option maxHeartbeats 4000000 in
theorem ct_M_isClash (l : Launch) (D : va_G) (ad : Nat → Nat) (ca : Nat → ClassId) (x1 : Int32) (x2 : Int32) (σ : zS) : zC zemI l y_M_isClash (Cond.code y_M_isClash b_M_isClash 3 (some .boolean) :: zTT) (zrm 1 24) D zcl (zKK D ca) (zwM ad ca) σ [.ref (ad 30), .int x1, .int x2] (fn_M_isClash x1 x2 σ) := by
  refine zmk_z (tys := zty ca) (by decide) (zKK_m D ca) (fun _ h => h.1) (Nat.le_of_ble_eq_true rfl) (fun V ex hX hR => ?_)
  show zJ V (zgd (zin x1 32) (zgd (zin x2 32) (if (lg_cmp (σ.2 35 x1.toNatClampNeg) (σ.2 35 x2.toNatClampNeg)) = 0 then zb (fn_M_agree x1 x2 σ) (fun r19 s19 => if r19 = 0 then some ((1 : Int32), s19) else some ((0 : Int32), s19)) else some ((0 : Int32), σ)))) (zwM ad ca σ ++ ex) 0 [(0, .ref (ad 30)), (1, .int x1), (2, .int x2)] []
  refine z_aload_n (i := 0) hX d_M_isClash_0 rfl rfl ?_
  refine z_get (C := R_M) (T := F_M) (N := 27) hX in_M 0 rfl rfl 7 (by decide) w_field_M_24_M_7 rfl d_M_isClash_1 ?_
  refine z_iload_n (i := 1) hX d_M_isClash_4 rfl rfl ?_
  refine z_lald hX 5 25 rfl rfl d_M_isClash_5 ?_
  refine z_aload_n (i := 0) hX d_M_isClash_6 rfl rfl ?_
  refine z_get (C := R_M) (T := F_M) (N := 27) hX in_M 0 rfl rfl 7 (by decide) w_field_M_24_M_7 rfl d_M_isClash_7 ?_
  refine z_iload_n (i := 2) hX d_M_isClash_10 rfl rfl ?_
  refine z_lald hX 5 25 rfl rfl d_M_isClash_11 ?_
  refine z_lcmp hX d_M_isClash_12 ?_
  refine z_if_ne (tgt := 29) hX d_M_isClash_13 (by decide) (fun c13 => ?_) (fun c13 => ?_)
  · refine z_aload_n (i := 0) hX d_M_isClash_16 rfl rfl ?_
    refine z_iload_n (i := 1) hX d_M_isClash_17 rfl rfl ?_
    refine z_iload_n (i := 2) hX d_M_isClash_18 rfl rfl ?_
    refine z_callVi (wl := zwM ad ca) (C := R_M) (n := 2) (rest := []) hX [.int x1, .int x2] (ct_M_agree l D ad ca x1 x2 σ) gV_M_127 ⟨rfl, rfl⟩ ⟨by decide, by decide⟩ (by decide +kernel) rfl 0 rfl rfl rfl rfl (Nat.le_of_ble_eq_true rfl) d_M_isClash_19 (fun r19 s19 => ?_)
    refine z_if_ne (tgt := 29) hX d_M_isClash_22 (by decide) (fun c22 => ?_) (fun c22 => ?_)
    · refine z_iconst (v := 1) hX d_M_isClash_25 (by decide) ?_
      refine z_goto (tgt := 30) hX d_M_isClash_26 (by decide) ?_
      exact z_zret hR rfl d_M_isClash_30
    · refine z_iconst (v := 0) hX d_M_isClash_29 (by decide) ?_
      exact z_zret hR rfl d_M_isClash_30
  · refine z_iconst (v := 0) hX d_M_isClash_29 (by decide) ?_
    exact z_zret hR rfl d_M_isClash_30
def fn_M_isBroken_154 : Nat → Int32 → Int32 → Int32 → zS → Option (Int32 × zS)
  | 0, _, _, _, _ => none
  | n + 1, x1, x4, x5, σ => if x5 < (σ.1 701 0) then if x4 = 0 then zb (fn_M_isClash x1 x5 σ) (fun r172 s172 => if r172 = 0 then fn_M_isBroken_154 n x1 (0 : Int32) (x5 + 1) s172 else fn_M_isBroken_154 n x1 (1 : Int32) (x5 + 1) s172) else fn_M_isBroken_154 n x1 (1 : Int32) (x5 + 1) σ else zgd (zbo x4) (some (x4, σ))
set_option maxRecDepth 100000 in
set_option maxHeartbeats 4000000 in
theorem bk_M_isBroken_154 (l : Launch) (D : va_G) (ad : Nat → Nat) (ca : Nat → ClassId) {V : zV Int32} {ex : va_W} (hX : zIs V l b_M_isBroken R_M zTT (zKK D ca) D zcl (zty ca) 6 (zrm 2 50)) (hR : zRz V b_M_isBroken (zwM ad ca) ex) : ∀ (n : Nat) (x1 : Int32) (x4 : Int32) (x5 : Int32) (σ : zS), zJ V (fn_M_isBroken_154 n x1 x4 x5 σ) (zwM ad ca σ ++ ex) 154 [(0, .ref (ad 30)), (1, .int x1), (4, .int x4), (5, .int x5)] [] := by
  intro n
  induction n with
  | zero => intros; exact z_none
  | succ n ih =>
    intro x1 x4 x5 σ
    show zJ V (if x5 < (σ.1 701 0) then if x4 = 0 then zb (fn_M_isClash x1 x5 σ) (fun r172 s172 => if r172 = 0 then fn_M_isBroken_154 n x1 (0 : Int32) (x5 + 1) s172 else fn_M_isBroken_154 n x1 (1 : Int32) (x5 + 1) s172) else fn_M_isBroken_154 n x1 (1 : Int32) (x5 + 1) σ else zgd (zbo x4) (some (x4, σ))) _ _ _ _
    refine z_iload (i := 5) hX d_M_isBroken_154 rfl ?_
    refine z_aload_n (i := 0) hX d_M_isBroken_156 rfl rfl ?_
    refine z_get (C := R_M) (T := F_M) (N := 27) hX in_M 0 rfl rfl 1 (by decide) w_field_M_76_M_1 rfl d_M_isBroken_157 ?_
    refine z_icmp_ge (tgt := 191) hX d_M_isBroken_160 (by decide) (fun c160 => ?_) (fun c160 => ?_)
    · refine z_iload (i := 4) hX d_M_isBroken_163 rfl ?_
      refine z_if_ne (tgt := 178) hX d_M_isBroken_165 (by decide) (fun c165 => ?_) (fun c165 => ?_)
      · refine z_aload_n (i := 0) hX d_M_isBroken_168 rfl rfl ?_
        refine z_iload_n (i := 1) hX d_M_isBroken_169 rfl rfl ?_
        refine z_iload (i := 5) hX d_M_isBroken_170 rfl ?_
        refine z_callVi (wl := zwM ad ca) (C := R_M) (n := 2) (rest := []) hX [.int x1, .int x5] (ct_M_isClash l D ad ca x1 x5 σ) gV_M_139 ⟨rfl, rfl⟩ ⟨by decide, by decide⟩ (by decide +kernel) rfl 0 rfl rfl rfl rfl (Nat.le_of_ble_eq_true rfl) d_M_isBroken_172 (fun r172 s172 => ?_)
        refine z_if_eq (tgt := 182) hX d_M_isBroken_175 (by decide) (fun c175 => ?_) (fun c175 => ?_)
        · refine z_iconst (v := 0) hX d_M_isBroken_182 (by decide) ?_
          refine z_istore (i := 4) (lv2 := [(4, .int (0 : Int32)), (0, .ref (ad 30)), (1, .int x1), (5, .int x5)]) hX d_M_isBroken_183 (by decide) rfl ?_
          refine z_iinc (v := x5 + 1) (lv2 := [(5, .int (x5 + 1)), (4, .int (0 : Int32)), (0, .ref (ad 30)), (1, .int x1)]) hX d_M_isBroken_185 3 rfl (by first | rfl | decide) (by decide) rfl ?_
          refine z_goto (tgt := 154) hX d_M_isBroken_188 (by decide) ?_
          refine z_lv hX [2, 3, 1, 0] (lv2 := [(0, .ref (ad 30)), (1, .int x1), (4, .int (0 : Int32)), (5, .int (x5 + 1))]) rfl ?_
          exact ih _ _ _ _
        · refine z_iconst (v := 1) hX d_M_isBroken_178 (by decide) ?_
          refine z_goto (tgt := 183) hX d_M_isBroken_179 (by decide) ?_
          refine z_istore (i := 4) (lv2 := [(4, .int (1 : Int32)), (0, .ref (ad 30)), (1, .int x1), (5, .int x5)]) hX d_M_isBroken_183 (by decide) rfl ?_
          refine z_iinc (v := x5 + 1) (lv2 := [(5, .int (x5 + 1)), (4, .int (1 : Int32)), (0, .ref (ad 30)), (1, .int x1)]) hX d_M_isBroken_185 3 rfl (by first | rfl | decide) (by decide) rfl ?_
          refine z_goto (tgt := 154) hX d_M_isBroken_188 (by decide) ?_
          refine z_lv hX [2, 3, 1, 0] (lv2 := [(0, .ref (ad 30)), (1, .int x1), (4, .int (1 : Int32)), (5, .int (x5 + 1))]) rfl ?_
          exact ih _ _ _ _
      · refine z_iconst (v := 1) hX d_M_isBroken_178 (by decide) ?_
        refine z_goto (tgt := 183) hX d_M_isBroken_179 (by decide) ?_
        refine z_istore (i := 4) (lv2 := [(4, .int (1 : Int32)), (0, .ref (ad 30)), (1, .int x1), (5, .int x5)]) hX d_M_isBroken_183 (by decide) rfl ?_
        refine z_iinc (v := x5 + 1) (lv2 := [(5, .int (x5 + 1)), (4, .int (1 : Int32)), (0, .ref (ad 30)), (1, .int x1)]) hX d_M_isBroken_185 3 rfl (by first | rfl | decide) (by decide) rfl ?_
        refine z_goto (tgt := 154) hX d_M_isBroken_188 (by decide) ?_
        refine z_lv hX [2, 3, 1, 0] (lv2 := [(0, .ref (ad 30)), (1, .int x1), (4, .int (1 : Int32)), (5, .int (x5 + 1))]) rfl ?_
        exact ih _ _ _ _
    · refine z_iload (i := 4) hX d_M_isBroken_191 rfl ?_
      exact z_zretg hR d_M_isBroken_193
def fn_M_isBroken (x1 : Int32) (x2 : Int32) (σ : zS) : Option (Int32 × zS) := zgd (zin x2 16) (zgd (zin x2 16) (if (σ.1 46 x2.toNatClampNeg) = (0 : Int32) then zgd (zin x1 32) (if (σ.1 38 x1.toNatClampNeg) = (-1 : Int32) then some ((1 : Int32), σ) else zgd (zin x1 32) (if ((zshr (σ.1 47 x2.toNatClampNeg) (σ.1 38 x1.toNatClampNeg)) &&& (1 : Int32)) = 0 then some ((1 : Int32), σ) else some ((0 : Int32), σ))) else if (σ.1 46 x2.toNatClampNeg) = (1 : Int32) then zgd (zin x1 32) (if ((zshr (σ.1 47 x2.toNatClampNeg) (σ.1 39 x1.toNatClampNeg)) &&& (1 : Int32)) = 0 then some ((1 : Int32), σ) else some ((0 : Int32), σ)) else if (σ.1 46 x2.toNatClampNeg) = (2 : Int32) then zgd (zin x2 16) (zb (fn_M_sourceBreaks x1 (σ.1 46 x2.toNatClampNeg) (σ.1 47 x2.toNatClampNeg) σ) (fun r121 s121 => zgd (zbo r121) (some (r121, s121)))) else if (σ.1 46 x2.toNatClampNeg) = (3 : Int32) then zgd (zin x2 16) (zb (fn_M_sourceBreaks x1 (σ.1 46 x2.toNatClampNeg) (σ.1 47 x2.toNatClampNeg) σ) (fun r121 s121 => zgd (zbo r121) (some (r121, s121)))) else if (σ.1 46 x2.toNatClampNeg) = (4 : Int32) then zgd (zin x2 16) (zb (fn_M_sourceBreaks x1 (σ.1 46 x2.toNatClampNeg) (σ.1 47 x2.toNatClampNeg) σ) (fun r121 s121 => zgd (zbo r121) (some (r121, s121)))) else if (σ.1 46 x2.toNatClampNeg) = (5 : Int32) then zb (fn_M_missing x1 (0 : Int32) σ) (fun r128 s128 => if r128 = (-1 : Int32) then some ((0 : Int32), s128) else some ((1 : Int32), s128)) else if (σ.1 46 x2.toNatClampNeg) = (6 : Int32) then zb (fn_M_isLate x1 (σ.1 47 x2.toNatClampNeg) σ) (fun r144 s144 => zgd (zbo r144) (some (r144, s144))) else if (σ.1 46 x2.toNatClampNeg) = (7 : Int32) then fn_M_isBroken_154 100 x1 (0 : Int32) (0 : Int32) σ else if (σ.1 46 x2.toNatClampNeg) = (8 : Int32) then zgd (zin x1 32) (if (σ.1 42 x1.toNatClampNeg) = 0 then zgd (zin x1 32) (if (σ.1 44 x1.toNatClampNeg) = 0 then some ((1 : Int32), σ) else some ((0 : Int32), σ)) else some ((0 : Int32), σ)) else zb (fn_M_goAlong x1 σ) (fun r220 s220 => if (σ.1 47 x2.toNatClampNeg) < (s220.1 721 0) then some ((1 : Int32), s220) else some ((0 : Int32), s220))))
set_option maxRecDepth 100000 in
set_option maxHeartbeats 4000000 in
theorem ct_M_isBroken (l : Launch) (D : va_G) (ad : Nat → Nat) (ca : Nat → ClassId) (x1 : Int32) (x2 : Int32) (σ : zS) : zC zemI l y_M_isBroken (Cond.code y_M_isBroken b_M_isBroken 6 (some .boolean) :: zTT) (zrm 2 50) D zcl (zKK D ca) (zwM ad ca) σ [.ref (ad 30), .int x1, .int x2] (fn_M_isBroken x1 x2 σ) := by
  refine zmk_z (tys := zty ca) (by decide) (zKK_m D ca) (fun _ h => h.1) (Nat.le_of_ble_eq_true rfl) (fun V ex hX hR => ?_)
  show zJ V (zgd (zin x2 16) (zgd (zin x2 16) (if (σ.1 46 x2.toNatClampNeg) = (0 : Int32) then zgd (zin x1 32) (if (σ.1 38 x1.toNatClampNeg) = (-1 : Int32) then some ((1 : Int32), σ) else zgd (zin x1 32) (if ((zshr (σ.1 47 x2.toNatClampNeg) (σ.1 38 x1.toNatClampNeg)) &&& (1 : Int32)) = 0 then some ((1 : Int32), σ) else some ((0 : Int32), σ))) else if (σ.1 46 x2.toNatClampNeg) = (1 : Int32) then zgd (zin x1 32) (if ((zshr (σ.1 47 x2.toNatClampNeg) (σ.1 39 x1.toNatClampNeg)) &&& (1 : Int32)) = 0 then some ((1 : Int32), σ) else some ((0 : Int32), σ)) else if (σ.1 46 x2.toNatClampNeg) = (2 : Int32) then zgd (zin x2 16) (zb (fn_M_sourceBreaks x1 (σ.1 46 x2.toNatClampNeg) (σ.1 47 x2.toNatClampNeg) σ) (fun r121 s121 => zgd (zbo r121) (some (r121, s121)))) else if (σ.1 46 x2.toNatClampNeg) = (3 : Int32) then zgd (zin x2 16) (zb (fn_M_sourceBreaks x1 (σ.1 46 x2.toNatClampNeg) (σ.1 47 x2.toNatClampNeg) σ) (fun r121 s121 => zgd (zbo r121) (some (r121, s121)))) else if (σ.1 46 x2.toNatClampNeg) = (4 : Int32) then zgd (zin x2 16) (zb (fn_M_sourceBreaks x1 (σ.1 46 x2.toNatClampNeg) (σ.1 47 x2.toNatClampNeg) σ) (fun r121 s121 => zgd (zbo r121) (some (r121, s121)))) else if (σ.1 46 x2.toNatClampNeg) = (5 : Int32) then zb (fn_M_missing x1 (0 : Int32) σ) (fun r128 s128 => if r128 = (-1 : Int32) then some ((0 : Int32), s128) else some ((1 : Int32), s128)) else if (σ.1 46 x2.toNatClampNeg) = (6 : Int32) then zb (fn_M_isLate x1 (σ.1 47 x2.toNatClampNeg) σ) (fun r144 s144 => zgd (zbo r144) (some (r144, s144))) else if (σ.1 46 x2.toNatClampNeg) = (7 : Int32) then fn_M_isBroken_154 100 x1 (0 : Int32) (0 : Int32) σ else if (σ.1 46 x2.toNatClampNeg) = (8 : Int32) then zgd (zin x1 32) (if (σ.1 42 x1.toNatClampNeg) = 0 then zgd (zin x1 32) (if (σ.1 44 x1.toNatClampNeg) = 0 then some ((1 : Int32), σ) else some ((0 : Int32), σ)) else some ((0 : Int32), σ)) else zb (fn_M_goAlong x1 σ) (fun r220 s220 => if (σ.1 47 x2.toNatClampNeg) < (s220.1 721 0) then some ((1 : Int32), s220) else some ((0 : Int32), s220))))) (zwM ad ca σ ++ ex) 0 [(0, .ref (ad 30)), (1, .int x1), (2, .int x2)] []
  refine z_aload_n (i := 0) hX d_M_isBroken_0 rfl rfl ?_
  refine z_get (C := R_M) (T := F_M) (N := 27) hX in_M 0 rfl rfl 19 (by decide) w_field_M_60_M_19 rfl d_M_isBroken_1 ?_
  refine z_iload_n (i := 2) hX d_M_isBroken_4 rfl rfl ?_
  refine z_iald hX 17 37 rfl rfl d_M_isBroken_5 ?_
  refine z_istore_n (i := 3) (lv2 := [(3, .int (σ.1 47 x2.toNatClampNeg)), (0, .ref (ad 30)), (1, .int x1), (2, .int x2)]) hX d_M_isBroken_6 rfl (by decide) rfl ?_
  refine z_aload_n (i := 0) hX d_M_isBroken_7 rfl rfl ?_
  refine z_get (C := R_M) (T := F_M) (N := 27) hX in_M 0 rfl rfl 18 (by decide) w_field_M_57_M_18 rfl d_M_isBroken_8 ?_
  refine z_iload_n (i := 2) hX d_M_isBroken_11 rfl rfl ?_
  refine z_iald hX 16 36 rfl rfl d_M_isBroken_12 ?_
  refine z_by (fun c13_0 => ?_) (fun c13_0 => ?_)
  · refine z_tabIn (tgt := 64) (off := 51) hX d_M_isBroken_13 (by rw [c13_0]; decide) (by rw [c13_0]; decide) (by rw [c13_0]; rfl) (by decide) ?_
    refine z_aload_n (i := 0) hX d_M_isBroken_64 rfl rfl ?_
    refine z_get (C := R_M) (T := F_M) (N := 27) hX in_M 0 rfl rfl 10 (by decide) w_field_M_33_M_10 rfl d_M_isBroken_65 ?_
    refine z_iload_n (i := 1) hX d_M_isBroken_68 rfl rfl ?_
    refine z_iald hX 8 28 rfl rfl d_M_isBroken_69 ?_
    refine z_iconst (v := -1) hX d_M_isBroken_70 (by decide) ?_
    refine z_icmp_eq (tgt := 87) hX d_M_isBroken_71 (by decide) (fun c71 => ?_) (fun c71 => ?_)
    · refine z_iconst (v := 1) hX d_M_isBroken_87 (by decide) ?_
      refine z_goto (tgt := 92) hX d_M_isBroken_88 (by decide) ?_
      exact z_zret hR rfl d_M_isBroken_92
    · refine z_iload_n (i := 3) hX d_M_isBroken_74 rfl rfl ?_
      refine z_aload_n (i := 0) hX d_M_isBroken_75 rfl rfl ?_
      refine z_get (C := R_M) (T := F_M) (N := 27) hX in_M 0 rfl rfl 10 (by decide) w_field_M_33_M_10 rfl d_M_isBroken_76 ?_
      refine z_iload_n (i := 1) hX d_M_isBroken_79 rfl rfl ?_
      refine z_iald hX 8 28 rfl rfl d_M_isBroken_80 ?_
      refine z_ishr hX d_M_isBroken_81 ?_
      refine z_iconst (v := 1) hX d_M_isBroken_82 (by decide) ?_
      refine z_iand hX d_M_isBroken_83 ?_
      refine z_if_ne (tgt := 91) hX d_M_isBroken_84 (by decide) (fun c84 => ?_) (fun c84 => ?_)
      · refine z_iconst (v := 1) hX d_M_isBroken_87 (by decide) ?_
        refine z_goto (tgt := 92) hX d_M_isBroken_88 (by decide) ?_
        exact z_zret hR rfl d_M_isBroken_92
      · refine z_iconst (v := 0) hX d_M_isBroken_91 (by decide) ?_
        exact z_zret hR rfl d_M_isBroken_92
  · refine z_by (fun c13_1 => ?_) (fun c13_1 => ?_)
    · refine z_tabIn (tgt := 93) (off := 80) hX d_M_isBroken_13 (by rw [c13_1]; decide) (by rw [c13_1]; decide) (by rw [c13_1]; rfl) (by decide) ?_
      refine z_iload_n (i := 3) hX d_M_isBroken_93 rfl rfl ?_
      refine z_aload_n (i := 0) hX d_M_isBroken_94 rfl rfl ?_
      refine z_get (C := R_M) (T := F_M) (N := 27) hX in_M 0 rfl rfl 11 (by decide) w_field_M_36_M_11 rfl d_M_isBroken_95 ?_
      refine z_iload_n (i := 1) hX d_M_isBroken_98 rfl rfl ?_
      refine z_iald hX 9 29 rfl rfl d_M_isBroken_99 ?_
      refine z_ishr hX d_M_isBroken_100 ?_
      refine z_iconst (v := 1) hX d_M_isBroken_101 (by decide) ?_
      refine z_iand hX d_M_isBroken_102 ?_
      refine z_if_ne (tgt := 110) hX d_M_isBroken_103 (by decide) (fun c103 => ?_) (fun c103 => ?_)
      · refine z_iconst (v := 1) hX d_M_isBroken_106 (by decide) ?_
        refine z_goto (tgt := 111) hX d_M_isBroken_107 (by decide) ?_
        exact z_zret hR rfl d_M_isBroken_111
      · refine z_iconst (v := 0) hX d_M_isBroken_110 (by decide) ?_
        exact z_zret hR rfl d_M_isBroken_111
    · refine z_by (fun c13_2 => ?_) (fun c13_2 => ?_)
      · refine z_tabIn (tgt := 112) (off := 99) hX d_M_isBroken_13 (by rw [c13_2]; decide) (by rw [c13_2]; decide) (by rw [c13_2]; rfl) (by decide) ?_
        refine z_aload_n (i := 0) hX d_M_isBroken_112 rfl rfl ?_
        refine z_iload_n (i := 1) hX d_M_isBroken_113 rfl rfl ?_
        refine z_aload_n (i := 0) hX d_M_isBroken_114 rfl rfl ?_
        refine z_get (C := R_M) (T := F_M) (N := 27) hX in_M 0 rfl rfl 18 (by decide) w_field_M_57_M_18 rfl d_M_isBroken_115 ?_
        refine z_iload_n (i := 2) hX d_M_isBroken_118 rfl rfl ?_
        refine z_iald hX 16 36 rfl rfl d_M_isBroken_119 ?_
        refine z_iload_n (i := 3) hX d_M_isBroken_120 rfl rfl ?_
        refine z_callVi (wl := zwM ad ca) (C := R_M) (n := 3) (rest := []) hX [.int x1, .int (σ.1 46 x2.toNatClampNeg), .int (σ.1 47 x2.toNatClampNeg)] (ct_M_sourceBreaks l D ad ca x1 (σ.1 46 x2.toNatClampNeg) (σ.1 47 x2.toNatClampNeg) σ) gV_M_130 ⟨rfl, rfl⟩ ⟨by decide, by decide⟩ (by decide +kernel) rfl 0 rfl rfl rfl rfl (Nat.le_of_ble_eq_true rfl) d_M_isBroken_121 (fun r121 s121 => ?_)
        exact z_zretg hR d_M_isBroken_124
      · refine z_by (fun c13_3 => ?_) (fun c13_3 => ?_)
        · refine z_tabIn (tgt := 112) (off := 99) hX d_M_isBroken_13 (by rw [c13_3]; decide) (by rw [c13_3]; decide) (by rw [c13_3]; rfl) (by decide) ?_
          refine z_aload_n (i := 0) hX d_M_isBroken_112 rfl rfl ?_
          refine z_iload_n (i := 1) hX d_M_isBroken_113 rfl rfl ?_
          refine z_aload_n (i := 0) hX d_M_isBroken_114 rfl rfl ?_
          refine z_get (C := R_M) (T := F_M) (N := 27) hX in_M 0 rfl rfl 18 (by decide) w_field_M_57_M_18 rfl d_M_isBroken_115 ?_
          refine z_iload_n (i := 2) hX d_M_isBroken_118 rfl rfl ?_
          refine z_iald hX 16 36 rfl rfl d_M_isBroken_119 ?_
          refine z_iload_n (i := 3) hX d_M_isBroken_120 rfl rfl ?_
          refine z_callVi (wl := zwM ad ca) (C := R_M) (n := 3) (rest := []) hX [.int x1, .int (σ.1 46 x2.toNatClampNeg), .int (σ.1 47 x2.toNatClampNeg)] (ct_M_sourceBreaks l D ad ca x1 (σ.1 46 x2.toNatClampNeg) (σ.1 47 x2.toNatClampNeg) σ) gV_M_130 ⟨rfl, rfl⟩ ⟨by decide, by decide⟩ (by decide +kernel) rfl 0 rfl rfl rfl rfl (Nat.le_of_ble_eq_true rfl) d_M_isBroken_121 (fun r121 s121 => ?_)
          exact z_zretg hR d_M_isBroken_124
        · refine z_by (fun c13_4 => ?_) (fun c13_4 => ?_)
          · refine z_tabIn (tgt := 112) (off := 99) hX d_M_isBroken_13 (by rw [c13_4]; decide) (by rw [c13_4]; decide) (by rw [c13_4]; rfl) (by decide) ?_
            refine z_aload_n (i := 0) hX d_M_isBroken_112 rfl rfl ?_
            refine z_iload_n (i := 1) hX d_M_isBroken_113 rfl rfl ?_
            refine z_aload_n (i := 0) hX d_M_isBroken_114 rfl rfl ?_
            refine z_get (C := R_M) (T := F_M) (N := 27) hX in_M 0 rfl rfl 18 (by decide) w_field_M_57_M_18 rfl d_M_isBroken_115 ?_
            refine z_iload_n (i := 2) hX d_M_isBroken_118 rfl rfl ?_
            refine z_iald hX 16 36 rfl rfl d_M_isBroken_119 ?_
            refine z_iload_n (i := 3) hX d_M_isBroken_120 rfl rfl ?_
            refine z_callVi (wl := zwM ad ca) (C := R_M) (n := 3) (rest := []) hX [.int x1, .int (σ.1 46 x2.toNatClampNeg), .int (σ.1 47 x2.toNatClampNeg)] (ct_M_sourceBreaks l D ad ca x1 (σ.1 46 x2.toNatClampNeg) (σ.1 47 x2.toNatClampNeg) σ) gV_M_130 ⟨rfl, rfl⟩ ⟨by decide, by decide⟩ (by decide +kernel) rfl 0 rfl rfl rfl rfl (Nat.le_of_ble_eq_true rfl) d_M_isBroken_121 (fun r121 s121 => ?_)
            exact z_zretg hR d_M_isBroken_124
          · refine z_by (fun c13_5 => ?_) (fun c13_5 => ?_)
            · refine z_tabIn (tgt := 125) (off := 112) hX d_M_isBroken_13 (by rw [c13_5]; decide) (by rw [c13_5]; decide) (by rw [c13_5]; rfl) (by decide) ?_
              refine z_aload_n (i := 0) hX d_M_isBroken_125 rfl rfl ?_
              refine z_iload_n (i := 1) hX d_M_isBroken_126 rfl rfl ?_
              refine z_iconst (v := 0) hX d_M_isBroken_127 (by decide) ?_
              refine z_callVi (wl := zwM ad ca) (C := R_M) (n := 2) (rest := []) hX [.int x1, .int (0 : Int32)] (ct_M_missing l D ad ca x1 (0 : Int32) σ) gV_M_133 ⟨rfl, rfl⟩ ⟨by decide, by decide⟩ (by decide +kernel) rfl 0 rfl rfl rfl rfl (Nat.le_of_ble_eq_true rfl) d_M_isBroken_128 (fun r128 s128 => ?_)
              refine z_iconst (v := -1) hX d_M_isBroken_131 (by decide) ?_
              refine z_icmp_eq (tgt := 139) hX d_M_isBroken_132 (by decide) (fun c132 => ?_) (fun c132 => ?_)
              · refine z_iconst (v := 0) hX d_M_isBroken_139 (by decide) ?_
                exact z_zret hR rfl d_M_isBroken_140
              · refine z_iconst (v := 1) hX d_M_isBroken_135 (by decide) ?_
                refine z_goto (tgt := 140) hX d_M_isBroken_136 (by decide) ?_
                exact z_zret hR rfl d_M_isBroken_140
            · refine z_by (fun c13_6 => ?_) (fun c13_6 => ?_)
              · refine z_tabIn (tgt := 141) (off := 128) hX d_M_isBroken_13 (by rw [c13_6]; decide) (by rw [c13_6]; decide) (by rw [c13_6]; rfl) (by decide) ?_
                refine z_aload_n (i := 0) hX d_M_isBroken_141 rfl rfl ?_
                refine z_iload_n (i := 1) hX d_M_isBroken_142 rfl rfl ?_
                refine z_iload_n (i := 3) hX d_M_isBroken_143 rfl rfl ?_
                refine z_callVi (wl := zwM ad ca) (C := R_M) (n := 2) (rest := []) hX [.int x1, .int (σ.1 47 x2.toNatClampNeg)] (ct_M_isLate l D ad ca x1 (σ.1 47 x2.toNatClampNeg) σ) gV_M_136 ⟨rfl, rfl⟩ ⟨by decide, by decide⟩ (by decide +kernel) rfl 0 rfl rfl rfl rfl (Nat.le_of_ble_eq_true rfl) d_M_isBroken_144 (fun r144 s144 => ?_)
                exact z_zretg hR d_M_isBroken_147
              · refine z_by (fun c13_7 => ?_) (fun c13_7 => ?_)
                · refine z_tabIn (tgt := 148) (off := 135) hX d_M_isBroken_13 (by rw [c13_7]; decide) (by rw [c13_7]; decide) (by rw [c13_7]; rfl) (by decide) ?_
                  refine z_iconst (v := 0) hX d_M_isBroken_148 (by decide) ?_
                  refine z_istore (i := 4) (lv2 := [(4, .int (0 : Int32)), (3, .int (σ.1 47 x2.toNatClampNeg)), (0, .ref (ad 30)), (1, .int x1), (2, .int x2)]) hX d_M_isBroken_149 (by decide) rfl ?_
                  refine z_iconst (v := 0) hX d_M_isBroken_151 (by decide) ?_
                  refine z_istore (i := 5) (lv2 := [(5, .int (0 : Int32)), (4, .int (0 : Int32)), (3, .int (σ.1 47 x2.toNatClampNeg)), (0, .ref (ad 30)), (1, .int x1), (2, .int x2)]) hX d_M_isBroken_152 (by decide) rfl ?_
                  refine z_lv hX [3, 4, 1, 0] (lv2 := [(0, .ref (ad 30)), (1, .int x1), (4, .int (0 : Int32)), (5, .int (0 : Int32))]) rfl ?_
                  exact bk_M_isBroken_154 l D ad ca hX hR 100 _ _ _ _
                · refine z_by (fun c13_8 => ?_) (fun c13_8 => ?_)
                  · refine z_tabIn (tgt := 194) (off := 181) hX d_M_isBroken_13 (by rw [c13_8]; decide) (by rw [c13_8]; decide) (by rw [c13_8]; rfl) (by decide) ?_
                    refine z_aload_n (i := 0) hX d_M_isBroken_194 rfl rfl ?_
                    refine z_get (C := R_M) (T := F_M) (N := 27) hX in_M 0 rfl rfl 14 (by decide) w_field_M_45_M_14 rfl d_M_isBroken_195 ?_
                    refine z_iload_n (i := 1) hX d_M_isBroken_198 rfl rfl ?_
                    refine z_iald hX 12 32 rfl rfl d_M_isBroken_199 ?_
                    refine z_if_ne (tgt := 216) hX d_M_isBroken_200 (by decide) (fun c200 => ?_) (fun c200 => ?_)
                    · refine z_aload_n (i := 0) hX d_M_isBroken_203 rfl rfl ?_
                      refine z_get (C := R_M) (T := F_M) (N := 27) hX in_M 0 rfl rfl 16 (by decide) w_field_M_51_M_16 rfl d_M_isBroken_204 ?_
                      refine z_iload_n (i := 1) hX d_M_isBroken_207 rfl rfl ?_
                      refine z_iald hX 14 34 rfl rfl d_M_isBroken_208 ?_
                      refine z_if_ne (tgt := 216) hX d_M_isBroken_209 (by decide) (fun c209 => ?_) (fun c209 => ?_)
                      · refine z_iconst (v := 1) hX d_M_isBroken_212 (by decide) ?_
                        refine z_goto (tgt := 217) hX d_M_isBroken_213 (by decide) ?_
                        exact z_zret hR rfl d_M_isBroken_217
                      · refine z_iconst (v := 0) hX d_M_isBroken_216 (by decide) ?_
                        exact z_zret hR rfl d_M_isBroken_217
                    · refine z_iconst (v := 0) hX d_M_isBroken_216 (by decide) ?_
                      exact z_zret hR rfl d_M_isBroken_217
                  · refine z_tabOut (tgt := 218) hX d_M_isBroken_13 (by have e0 : (σ.1 46 x2.toNatClampNeg).toInt ≠ 0 := fun h => c13_0 (Int32.toInt_inj.mp (h.trans (by decide))); have e1 : (σ.1 46 x2.toNatClampNeg).toInt ≠ 1 := fun h => c13_1 (Int32.toInt_inj.mp (h.trans (by decide))); have e2 : (σ.1 46 x2.toNatClampNeg).toInt ≠ 2 := fun h => c13_2 (Int32.toInt_inj.mp (h.trans (by decide))); have e3 : (σ.1 46 x2.toNatClampNeg).toInt ≠ 3 := fun h => c13_3 (Int32.toInt_inj.mp (h.trans (by decide))); have e4 : (σ.1 46 x2.toNatClampNeg).toInt ≠ 4 := fun h => c13_4 (Int32.toInt_inj.mp (h.trans (by decide))); have e5 : (σ.1 46 x2.toNatClampNeg).toInt ≠ 5 := fun h => c13_5 (Int32.toInt_inj.mp (h.trans (by decide))); have e6 : (σ.1 46 x2.toNatClampNeg).toInt ≠ 6 := fun h => c13_6 (Int32.toInt_inj.mp (h.trans (by decide))); have e7 : (σ.1 46 x2.toNatClampNeg).toInt ≠ 7 := fun h => c13_7 (Int32.toInt_inj.mp (h.trans (by decide))); have e8 : (σ.1 46 x2.toNatClampNeg).toInt ≠ 8 := fun h => c13_8 (Int32.toInt_inj.mp (h.trans (by decide))); omega) (by decide) ?_
                    refine z_aload_n (i := 0) hX d_M_isBroken_218 rfl rfl ?_
                    refine z_iload_n (i := 1) hX d_M_isBroken_219 rfl rfl ?_
                    refine z_callVv (wl := zwM ad ca) (C := R_M) (n := 1) (rest := []) hX [.int x1] (ct_M_goAlong l D ad ca x1 σ) gV_M_117 ⟨rfl, rfl⟩ ⟨by decide, by decide⟩ (by decide +kernel) rfl 0 rfl rfl rfl rfl (Nat.le_of_ble_eq_true rfl) d_M_isBroken_220 (fun r220 s220 => ?_)
                    refine z_aload_n (i := 0) hX d_M_isBroken_223 rfl rfl ?_
                    refine z_get (C := R_M) (T := F_M) (N := 27) hX in_M 0 rfl rfl 21 (by decide) w_field_M_106_M_21 rfl d_M_isBroken_224 ?_
                    refine z_iload_n (i := 3) hX d_M_isBroken_227 rfl rfl ?_
                    refine z_icmp_le (tgt := 235) hX d_M_isBroken_228 (by decide) (fun c228 => ?_) (fun c228 => ?_)
                    · refine z_iconst (v := 1) hX d_M_isBroken_231 (by decide) ?_
                      refine z_goto (tgt := 236) hX d_M_isBroken_232 (by decide) ?_
                      exact z_zret hR rfl d_M_isBroken_236
                    · refine z_iconst (v := 0) hX d_M_isBroken_235 (by decide) ?_
                      exact z_zret hR rfl d_M_isBroken_236
def fn_M_breaks (x1 : Int32) (x2 : Int32) (σ : zS) : Option (Int32 × zS) := zb (fn_M_isArtefact x1 σ) (fun r2 s2 => if r2 = 0 then some ((0 : Int32), s2) else if x2 < 0 then some ((0 : Int32), s2) else if x2 < (s2.1 702 0) then zb (fn_M_isBroken x1 x2 s2) (fun r23 s23 => if r23 = 0 then some ((0 : Int32), s23) else some ((1 : Int32), s23)) else some ((0 : Int32), s2))
set_option maxRecDepth 100000 in
set_option maxHeartbeats 4000000 in
theorem ct_M_breaks (l : Launch) (D : va_G) (ad : Nat → Nat) (ca : Nat → ClassId) (x1 : Int32) (x2 : Int32) (σ : zS) : zC zemI l y_M_breaks (Cond.code y_M_breaks b_M_breaks 3 (some .boolean) :: zTT) (zrm 3 75) D zcl (zKK D ca) (zwM ad ca) σ [.ref (ad 30), .int x1, .int x2] (fn_M_breaks x1 x2 σ) := by
  refine zmk_z (tys := zty ca) (by decide) (zKK_m D ca) (fun _ h => h.1) (Nat.le_of_ble_eq_true rfl) (fun V ex hX hR => ?_)
  show zJ V (zb (fn_M_isArtefact x1 σ) (fun r2 s2 => if r2 = 0 then some ((0 : Int32), s2) else if x2 < 0 then some ((0 : Int32), s2) else if x2 < (s2.1 702 0) then zb (fn_M_isBroken x1 x2 s2) (fun r23 s23 => if r23 = 0 then some ((0 : Int32), s23) else some ((1 : Int32), s23)) else some ((0 : Int32), s2))) (zwM ad ca σ ++ ex) 0 [(0, .ref (ad 30)), (1, .int x1), (2, .int x2)] []
  refine z_aload_n (i := 0) hX d_M_breaks_0 rfl rfl ?_
  refine z_iload_n (i := 1) hX d_M_breaks_1 rfl rfl ?_
  refine z_callVi (wl := zwM ad ca) (C := R_M) (n := 1) (rest := []) hX [.int x1] (ct_M_isArtefact l D ad ca x1 σ) gV_M_92 ⟨rfl, rfl⟩ ⟨by decide, by decide⟩ (by decide +kernel) rfl 0 rfl rfl rfl rfl (Nat.le_of_ble_eq_true rfl) d_M_breaks_2 (fun r2 s2 => ?_)
  refine z_if_eq (tgt := 33) hX d_M_breaks_5 (by decide) (fun c5 => ?_) (fun c5 => ?_)
  · refine z_iconst (v := 0) hX d_M_breaks_33 (by decide) ?_
    exact z_zret hR rfl d_M_breaks_34
  · refine z_iload_n (i := 2) hX d_M_breaks_8 rfl rfl ?_
    refine z_if_lt (tgt := 33) hX d_M_breaks_9 (by decide) (fun c9 => ?_) (fun c9 => ?_)
    · refine z_iconst (v := 0) hX d_M_breaks_33 (by decide) ?_
      exact z_zret hR rfl d_M_breaks_34
    · refine z_iload_n (i := 2) hX d_M_breaks_12 rfl rfl ?_
      refine z_aload_n (i := 0) hX d_M_breaks_13 rfl rfl ?_
      refine z_get (C := R_M) (T := F_M) (N := 27) hX in_M 0 rfl rfl 2 (by decide) w_field_M_103_M_2 rfl d_M_breaks_14 ?_
      refine z_icmp_ge (tgt := 33) hX d_M_breaks_17 (by decide) (fun c17 => ?_) (fun c17 => ?_)
      · refine z_aload_n (i := 0) hX d_M_breaks_20 rfl rfl ?_
        refine z_iload_n (i := 1) hX d_M_breaks_21 rfl rfl ?_
        refine z_iload_n (i := 2) hX d_M_breaks_22 rfl rfl ?_
        refine z_callVi (wl := zwM ad ca) (C := R_M) (n := 2) (rest := []) hX [.int x1, .int x2] (ct_M_isBroken l D ad ca x1 x2 s2) gV_M_142 ⟨rfl, rfl⟩ ⟨by decide, by decide⟩ (by decide +kernel) rfl 0 rfl rfl rfl rfl (Nat.le_of_ble_eq_true rfl) d_M_breaks_23 (fun r23 s23 => ?_)
        refine z_if_eq (tgt := 33) hX d_M_breaks_26 (by decide) (fun c26 => ?_) (fun c26 => ?_)
        · refine z_iconst (v := 0) hX d_M_breaks_33 (by decide) ?_
          exact z_zret hR rfl d_M_breaks_34
        · refine z_iconst (v := 1) hX d_M_breaks_29 (by decide) ?_
          refine z_goto (tgt := 34) hX d_M_breaks_30 (by decide) ?_
          exact z_zret hR rfl d_M_breaks_34
      · refine z_iconst (v := 0) hX d_M_breaks_33 (by decide) ?_
        exact z_zret hR rfl d_M_breaks_34
def fn_M_verdict_64 (k54 : Int32 → zS → Option (Int32 × zS)) : Nat → Int32 → Int32 → zS → Option (Int32 × zS)
  | 0, _, _, _ => none
  | n + 1, x2, x3, σ => if x3 < (σ.1 702 0) then zgd (zin x2 32) (zb (fn_M_isBroken (σ.1 49 x2.toNatClampNeg) x3 σ) (fun r80 s80 => if r80 = 0 then fn_M_verdict_64 k54 n x2 (x3 + 1) s80 else zgd (zin x2 32) (zst (zF s80 720 (s80.1 49 x2.toNatClampNeg)) (fun s96 => some (x3, s96))))) else k54 (x2 + 1) σ
set_option maxRecDepth 100000 in
set_option maxHeartbeats 4000000 in
theorem bk_M_verdict_64 (l : Launch) (D : va_G) (ad : Nat → Nat) (ca : Nat → ClassId) {V : zV Int32} {ex : va_W} (hX : zIs V l b_M_verdict R_M zTT (zKK D ca) D zcl (zty ca) 4 (zrm 3 75)) (hR : zRi V b_M_verdict (zwM ad ca) ex) (k54 : Int32 → zS → Option (Int32 × zS)) (hk54 : ∀ (z2 : Int32) (σ : zS), zJ V (k54 z2 σ) (zwM ad ca σ ++ ex) 54 [(0, .ref (ad 30)), (2, .int z2)] []) : ∀ (n : Nat) (x2 : Int32) (x3 : Int32) (σ : zS), zJ V (fn_M_verdict_64 k54 n x2 x3 σ) (zwM ad ca σ ++ ex) 64 [(0, .ref (ad 30)), (2, .int x2), (3, .int x3)] [] := by
  intro n
  induction n with
  | zero => intros; exact z_none
  | succ n ih =>
    intro x2 x3 σ
    show zJ V (if x3 < (σ.1 702 0) then zgd (zin x2 32) (zb (fn_M_isBroken (σ.1 49 x2.toNatClampNeg) x3 σ) (fun r80 s80 => if r80 = 0 then fn_M_verdict_64 k54 n x2 (x3 + 1) s80 else zgd (zin x2 32) (zst (zF s80 720 (s80.1 49 x2.toNatClampNeg)) (fun s96 => some (x3, s96))))) else k54 (x2 + 1) σ) _ _ _ _
    refine z_iload_n (i := 3) hX d_M_verdict_64 rfl rfl ?_
    refine z_aload_n (i := 0) hX d_M_verdict_65 rfl rfl ?_
    refine z_get (C := R_M) (T := F_M) (N := 27) hX in_M 0 rfl rfl 2 (by decide) w_field_M_103_M_2 rfl d_M_verdict_66 ?_
    refine z_icmp_ge (tgt := 107) hX d_M_verdict_69 (by decide) (fun c69 => ?_) (fun c69 => ?_)
    · refine z_aload_n (i := 0) hX d_M_verdict_72 rfl rfl ?_
      refine z_aload_n (i := 0) hX d_M_verdict_73 rfl rfl ?_
      refine z_get (C := R_M) (T := F_M) (N := 27) hX in_M 0 rfl rfl 25 (by decide) w_field_M_70_M_25 rfl d_M_verdict_74 ?_
      refine z_iload_n (i := 2) hX d_M_verdict_77 rfl rfl ?_
      refine z_iald hX 19 39 rfl rfl d_M_verdict_78 ?_
      refine z_iload_n (i := 3) hX d_M_verdict_79 rfl rfl ?_
      refine z_callVi (wl := zwM ad ca) (C := R_M) (n := 2) (rest := []) hX [.int (σ.1 49 x2.toNatClampNeg), .int x3] (ct_M_isBroken l D ad ca (σ.1 49 x2.toNatClampNeg) x3 σ) gV_M_142 ⟨rfl, rfl⟩ ⟨by decide, by decide⟩ (by decide +kernel) rfl 0 rfl rfl rfl rfl (Nat.le_of_ble_eq_true rfl) d_M_verdict_80 (fun r80 s80 => ?_)
      refine z_if_ne (tgt := 89) hX d_M_verdict_83 (by decide) (fun c83 => ?_) (fun c83 => ?_)
      · refine z_goto (tgt := 101) hX d_M_verdict_86 (by decide) ?_
        refine z_iinc (v := x3 + 1) (lv2 := [(3, .int (x3 + 1)), (0, .ref (ad 30)), (2, .int x2)]) hX d_M_verdict_101 2 rfl (by first | rfl | decide) (by decide) rfl ?_
        refine z_goto (tgt := 64) hX d_M_verdict_104 (by decide) ?_
        refine z_lv hX [1, 2, 0] (lv2 := [(0, .ref (ad 30)), (2, .int x2), (3, .int (x3 + 1))]) rfl ?_
        exact ih _ _ _
      · refine z_aload_n (i := 0) hX d_M_verdict_89 rfl rfl ?_
        refine z_aload_n (i := 0) hX d_M_verdict_90 rfl rfl ?_
        refine z_get (C := R_M) (T := F_M) (N := 27) hX in_M 0 rfl rfl 25 (by decide) w_field_M_70_M_25 rfl d_M_verdict_91 ?_
        refine z_iload_n (i := 2) hX d_M_verdict_94 rfl rfl ?_
        refine z_iald hX 19 39 rfl rfl d_M_verdict_95 ?_
        refine z_put (C := R_M) (T := F_M) (N := 27) (wl := zwM ad ca) (ex := ex) (x9 := (zF s80 720 (s80.1 49 x2.toNatClampNeg))) hX in_M t_M t_M_ok n_M 0 rfl rfl 20 (by decide) w_field_M_63_M_20 rfl rfl rfl (Nat.le_of_ble_eq_true rfl) rfl d_M_verdict_96 (fun s96 => ?_)
        refine z_iload_n (i := 3) hX d_M_verdict_99 rfl rfl ?_
        exact z_iret hR d_M_verdict_100
    · refine z_iinc (v := x2 + 1) (lv2 := [(2, .int (x2 + 1)), (0, .ref (ad 30)), (3, .int x3)]) hX d_M_verdict_107 1 rfl (by first | rfl | decide) (by decide) rfl ?_
      refine z_goto (tgt := 54) hX d_M_verdict_110 (by decide) ?_
      refine z_lv hX [1, 0] (lv2 := [(0, .ref (ad 30)), (2, .int (x2 + 1))]) rfl ?_
      exact hk54 _ _
def fn_M_verdict_54 : Nat → Int32 → zS → Option (Int32 × zS)
  | 0, _, _ => none
  | n + 1, x2, σ => if x2 < (σ.1 722 0) then fn_M_verdict_64 (fn_M_verdict_54 n) 100 x2 (0 : Int32) σ else some ((-1 : Int32), σ)
set_option maxRecDepth 100000 in
set_option maxHeartbeats 4000000 in
theorem bk_M_verdict_54 (l : Launch) (D : va_G) (ad : Nat → Nat) (ca : Nat → ClassId) {V : zV Int32} {ex : va_W} (hX : zIs V l b_M_verdict R_M zTT (zKK D ca) D zcl (zty ca) 4 (zrm 3 75)) (hR : zRi V b_M_verdict (zwM ad ca) ex) : ∀ (n : Nat) (x2 : Int32) (σ : zS), zJ V (fn_M_verdict_54 n x2 σ) (zwM ad ca σ ++ ex) 54 [(0, .ref (ad 30)), (2, .int x2)] [] := by
  intro n
  induction n with
  | zero => intros; exact z_none
  | succ n ih =>
    intro x2 σ
    show zJ V (if x2 < (σ.1 722 0) then fn_M_verdict_64 (fn_M_verdict_54 n) 100 x2 (0 : Int32) σ else some ((-1 : Int32), σ)) _ _ _ _
    refine z_iload_n (i := 2) hX d_M_verdict_54 rfl rfl ?_
    refine z_aload_n (i := 0) hX d_M_verdict_55 rfl rfl ?_
    refine z_get (C := R_M) (T := F_M) (N := 27) hX in_M 0 rfl rfl 22 (by decide) w_field_M_145_M_22 rfl d_M_verdict_56 ?_
    refine z_icmp_ge (tgt := 113) hX d_M_verdict_59 (by decide) (fun c59 => ?_) (fun c59 => ?_)
    · refine z_iconst (v := 0) hX d_M_verdict_62 (by decide) ?_
      refine z_istore_n (i := 3) (lv2 := [(3, .int (0 : Int32)), (0, .ref (ad 30)), (2, .int x2)]) hX d_M_verdict_63 rfl (by decide) rfl ?_
      refine z_lv hX [1, 2, 0] (lv2 := [(0, .ref (ad 30)), (2, .int x2), (3, .int (0 : Int32))]) rfl ?_
      exact bk_M_verdict_64 l D ad ca hX hR (fn_M_verdict_54 n) ih 100 _ _ _
    · refine z_iconst (v := -1) hX d_M_verdict_113 (by decide) ?_
      exact z_iret hR d_M_verdict_114
def fn_M_verdict_26 : Nat → Int32 → zS → Option (Int32 × zS)
  | 0, _, _ => none
  | n + 1, x2, σ => if x2 < (σ.1 722 0) then zgd (zin x2 32) (zgd (zin x2 32) (zst (zI σ 49 x2.toNatClampNeg (σ.1 48 x2.toNatClampNeg)) (fun s45 => fn_M_verdict_26 n (x2 + 1) s45))) else fn_M_verdict_54 100 (0 : Int32) σ
set_option maxRecDepth 100000 in
set_option maxHeartbeats 4000000 in
theorem bk_M_verdict_26 (l : Launch) (D : va_G) (ad : Nat → Nat) (ca : Nat → ClassId) {V : zV Int32} {ex : va_W} (hX : zIs V l b_M_verdict R_M zTT (zKK D ca) D zcl (zty ca) 4 (zrm 3 75)) (hR : zRi V b_M_verdict (zwM ad ca) ex) : ∀ (n : Nat) (x2 : Int32) (σ : zS), zJ V (fn_M_verdict_26 n x2 σ) (zwM ad ca σ ++ ex) 26 [(0, .ref (ad 30)), (2, .int x2)] [] := by
  intro n
  induction n with
  | zero => intros; exact z_none
  | succ n ih =>
    intro x2 σ
    show zJ V (if x2 < (σ.1 722 0) then zgd (zin x2 32) (zgd (zin x2 32) (zst (zI σ 49 x2.toNatClampNeg (σ.1 48 x2.toNatClampNeg)) (fun s45 => fn_M_verdict_26 n (x2 + 1) s45))) else fn_M_verdict_54 100 (0 : Int32) σ) _ _ _ _
    refine z_iload_n (i := 2) hX d_M_verdict_26 rfl rfl ?_
    refine z_aload_n (i := 0) hX d_M_verdict_27 rfl rfl ?_
    refine z_get (C := R_M) (T := F_M) (N := 27) hX in_M 0 rfl rfl 22 (by decide) w_field_M_145_M_22 rfl d_M_verdict_28 ?_
    refine z_icmp_ge (tgt := 52) hX d_M_verdict_31 (by decide) (fun c31 => ?_) (fun c31 => ?_)
    · refine z_aload_n (i := 0) hX d_M_verdict_34 rfl rfl ?_
      refine z_get (C := R_M) (T := F_M) (N := 27) hX in_M 0 rfl rfl 25 (by decide) w_field_M_70_M_25 rfl d_M_verdict_35 ?_
      refine z_iload_n (i := 2) hX d_M_verdict_38 rfl rfl ?_
      refine z_aload_n (i := 0) hX d_M_verdict_39 rfl rfl ?_
      refine z_get (C := R_M) (T := F_M) (N := 27) hX in_M 0 rfl rfl 24 (by decide) w_field_M_67_M_24 rfl d_M_verdict_40 ?_
      refine z_iload_n (i := 2) hX d_M_verdict_43 rfl rfl ?_
      refine z_iald hX 18 38 rfl rfl d_M_verdict_44 ?_
      refine z_iast (wl := zwM ad ca) (ex := ex) (x9 := (zI σ 49 x2.toNatClampNeg (σ.1 48 x2.toNatClampNeg))) hX 19 39 rfl rfl rfl d_M_verdict_45 (fun s45 => ?_)
      refine z_iinc (v := x2 + 1) (lv2 := [(2, .int (x2 + 1)), (0, .ref (ad 30))]) hX d_M_verdict_46 1 rfl (by first | rfl | decide) (by decide) rfl ?_
      refine z_goto (tgt := 26) hX d_M_verdict_49 (by decide) ?_
      refine z_lv hX [1, 0] (lv2 := [(0, .ref (ad 30)), (2, .int (x2 + 1))]) rfl ?_
      exact ih _ _
    · refine z_iconst (v := 0) hX d_M_verdict_52 (by decide) ?_
      refine z_istore_n (i := 2) (lv2 := [(2, .int (0 : Int32)), (0, .ref (ad 30))]) hX d_M_verdict_53 rfl (by decide) rfl ?_
      refine z_lv hX [1, 0] (lv2 := [(0, .ref (ad 30)), (2, .int (0 : Int32))]) rfl ?_
      exact bk_M_verdict_54 l D ad ca hX hR 100 _ _
def fn_M_verdict (x1 : Int32) (σ : zS) : Option (Int32 × zS) := zb (fn_M_isArtefact x1 σ) (fun r2 s2 => if r2 = 0 then some ((-2 : Int32), s2) else zb (fn_M_goAlong x1 s2) (fun r13 s13 => zst (zF s13 722 (s13.1 721 0)) (fun s21 => fn_M_verdict_26 100 (0 : Int32) s21)))
set_option maxRecDepth 100000 in
set_option maxHeartbeats 4000000 in
theorem ct_M_verdict (l : Launch) (D : va_G) (ad : Nat → Nat) (ca : Nat → ClassId) (x1 : Int32) (σ : zS) : zC zemI l y_M_verdict (Cond.code y_M_verdict b_M_verdict 4 (some .int) :: zTT) (zrm 3 75) D zcl (zKK D ca) (zwM ad ca) σ [.ref (ad 30), .int x1] (fn_M_verdict x1 σ) := by
  refine zmk_i (tys := zty ca) (by decide) (zKK_m D ca) (fun _ h => h.1) (Nat.le_of_ble_eq_true rfl) (fun V ex hX hR => ?_)
  show zJ V (zb (fn_M_isArtefact x1 σ) (fun r2 s2 => if r2 = 0 then some ((-2 : Int32), s2) else zb (fn_M_goAlong x1 s2) (fun r13 s13 => zst (zF s13 722 (s13.1 721 0)) (fun s21 => fn_M_verdict_26 100 (0 : Int32) s21)))) (zwM ad ca σ ++ ex) 0 [(0, .ref (ad 30)), (1, .int x1)] []
  refine z_aload_n (i := 0) hX d_M_verdict_0 rfl rfl ?_
  refine z_iload_n (i := 1) hX d_M_verdict_1 rfl rfl ?_
  refine z_callVi (wl := zwM ad ca) (C := R_M) (n := 1) (rest := []) hX [.int x1] (ct_M_isArtefact l D ad ca x1 σ) gV_M_92 ⟨rfl, rfl⟩ ⟨by decide, by decide⟩ (by decide +kernel) rfl 0 rfl rfl rfl rfl (Nat.le_of_ble_eq_true rfl) d_M_verdict_2 (fun r2 s2 => ?_)
  refine z_if_ne (tgt := 11) hX d_M_verdict_5 (by decide) (fun c5 => ?_) (fun c5 => ?_)
  · refine z_bipush (v := -2) hX d_M_verdict_8 (by decide) ?_
    exact z_iret hR d_M_verdict_10
  · refine z_aload_n (i := 0) hX d_M_verdict_11 rfl rfl ?_
    refine z_iload_n (i := 1) hX d_M_verdict_12 rfl rfl ?_
    refine z_callVv (wl := zwM ad ca) (C := R_M) (n := 1) (rest := []) hX [.int x1] (ct_M_goAlong l D ad ca x1 s2) gV_M_117 ⟨rfl, rfl⟩ ⟨by decide, by decide⟩ (by decide +kernel) rfl 0 rfl rfl rfl rfl (Nat.le_of_ble_eq_true rfl) d_M_verdict_13 (fun r13 s13 => ?_)
    refine z_aload_n (i := 0) hX d_M_verdict_16 rfl rfl ?_
    refine z_aload_n (i := 0) hX d_M_verdict_17 rfl rfl ?_
    refine z_get (C := R_M) (T := F_M) (N := 27) hX in_M 0 rfl rfl 21 (by decide) w_field_M_106_M_21 rfl d_M_verdict_18 ?_
    refine z_put (C := R_M) (T := F_M) (N := 27) (wl := zwM ad ca) (ex := ex) (x9 := (zF s13 722 (s13.1 721 0))) hX in_M t_M t_M_ok n_M 0 rfl rfl 22 (by decide) w_field_M_145_M_22 rfl rfl rfl (Nat.le_of_ble_eq_true rfl) rfl d_M_verdict_21 (fun s21 => ?_)
    refine z_iconst (v := 0) hX d_M_verdict_24 (by decide) ?_
    refine z_istore_n (i := 2) (lv2 := [(2, .int (0 : Int32)), (0, .ref (ad 30)), (1, .int x1)]) hX d_M_verdict_25 rfl (by decide) rfl ?_
    refine z_lv hX [1, 0] (lv2 := [(0, .ref (ad 30)), (2, .int (0 : Int32))]) rfl ?_
    exact bk_M_verdict_26 l D ad ca hX hR 100 _ _
def fn_M_culprit  (σ : zS) : Option (Int32 × zS) := some (σ.1 720 0, σ)
set_option maxRecDepth 100000 in
set_option maxHeartbeats 4000000 in
theorem ct_M_culprit (l : Launch) (D : va_G) (ad : Nat → Nat) (ca : Nat → ClassId)  (σ : zS) : zC zemI l y_M_culprit (Cond.code y_M_culprit b_M_culprit 1 (some .int) :: zTT) (zrm 0 0) D zcl (zKK D ca) (zwM ad ca) σ [.ref (ad 30)] (fn_M_culprit σ) := by
  refine zmk_i (tys := zty ca) (by decide) (zKK_m D ca) (fun _ h => h.1) (Nat.le_of_ble_eq_true rfl) (fun V ex hX hR => ?_)
  show zJ V (some (σ.1 720 0, σ)) (zwM ad ca σ ++ ex) 0 [(0, .ref (ad 30))] []
  refine z_aload_n (i := 0) hX d_M_culprit_0 rfl rfl ?_
  refine z_get (C := R_M) (T := F_M) (N := 27) hX in_M 0 rfl rfl 20 (by decide) w_field_M_63_M_20 rfl d_M_culprit_1 ?_
  exact z_iret hR d_M_culprit_4
