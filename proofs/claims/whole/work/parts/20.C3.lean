def fn_A_needsLaterBy_2 : Nat → Int32 → Int32 → Int32 → zS → Option (Int32 × zS)
  | 0, _, _, _, _ => none
  | n + 1, x1, x2, x3, σ => zgd (zin x1 32) (if x3 < (σ.1 16 x1.toNatClampNeg) then zb (fn_A_metByAt x1 x3 σ) (fun r18 s18 => if r18 = (-1 : Int32) then fn_A_needsLaterBy_2 n x1 x2 (x3 + 1) s18 else zgd (zin r18 32) (zgd (zin x1 32) (if x2 < ((s18.1 11 r18.toNatClampNeg) - (s18.1 11 x1.toNatClampNeg)) then some ((1 : Int32), s18) else fn_A_needsLaterBy_2 n x1 x2 (x3 + 1) s18))) else some ((0 : Int32), σ))
set_option maxRecDepth 100000 in
set_option maxHeartbeats 4000000 in
theorem bk_A_needsLaterBy_2 (l : Launch) (D : va_G) (ad : Nat → Nat) (ca : Nat → ClassId) {V : zV Int32} {ex : va_W} (hX : zIs V l b_A_needsLaterBy R_A zTT (zKK D ca) D zcl (zty ca) 5 (zrm 1 22)) (hR : zRz V b_A_needsLaterBy (zwC ad ca) ex) : ∀ (n : Nat) (x1 : Int32) (x2 : Int32) (x3 : Int32) (σ : zS), zJ V (fn_A_needsLaterBy_2 n x1 x2 x3 σ) (zwC ad ca σ ++ ex) 2 [(0, .ref (ad 6)), (1, .int x1), (2, .int x2), (3, .int x3)] [] := by
  intro n
  induction n with
  | zero => intros; exact z_none
  | succ n ih =>
    intro x1 x2 x3 σ
    show zJ V (zgd (zin x1 32) (if x3 < (σ.1 16 x1.toNatClampNeg) then zb (fn_A_metByAt x1 x3 σ) (fun r18 s18 => if r18 = (-1 : Int32) then fn_A_needsLaterBy_2 n x1 x2 (x3 + 1) s18 else zgd (zin r18 32) (zgd (zin x1 32) (if x2 < ((s18.1 11 r18.toNatClampNeg) - (s18.1 11 x1.toNatClampNeg)) then some ((1 : Int32), s18) else fn_A_needsLaterBy_2 n x1 x2 (x3 + 1) s18))) else some ((0 : Int32), σ))) _ _ _ _
    refine z_iload_n (i := 3) hX d_A_needsLaterBy_2 rfl rfl ?_
    refine z_aload_n (i := 0) hX d_A_needsLaterBy_3 rfl rfl ?_
    refine z_get (C := R_A) (T := F_A) (N := 11) hX in_A 6 rfl rfl 7 (by decide) w_field_A_35_A_7 rfl d_A_needsLaterBy_4 ?_
    refine z_get (C := R_W) (T := F_W) (N := 2) hX in_W 15 rfl rfl 0 (by decide) w_field_A_55_W_0 rfl d_A_needsLaterBy_7 ?_
    refine z_iload_n (i := 1) hX d_A_needsLaterBy_10 rfl rfl ?_
    refine z_iald hX 16 11 rfl rfl d_A_needsLaterBy_11 ?_
    refine z_icmp_ge (tgt := 55) hX d_A_needsLaterBy_12 (by decide) (fun c12 => ?_) (fun c12 => ?_)
    · refine z_aload_n (i := 0) hX d_A_needsLaterBy_15 rfl rfl ?_
      refine z_iload_n (i := 1) hX d_A_needsLaterBy_16 rfl rfl ?_
      refine z_iload_n (i := 3) hX d_A_needsLaterBy_17 rfl rfl ?_
      refine z_callVi (wl := zwC ad ca) (C := R_A) (n := 2) (rest := []) hX [.int x1, .int x3] (ct_A_metByAt l D ad ca x1 x3 σ) gV_A_62 ⟨rfl, rfl⟩ ⟨by decide, by decide⟩ (by decide +kernel) rfl 6 rfl rfl rfl rfl (Nat.le_of_ble_eq_true rfl) d_A_needsLaterBy_18 (fun r18 s18 => ?_)
      refine z_istore (i := 4) (lv2 := [(4, .int r18), (0, .ref (ad 6)), (1, .int x1), (2, .int x2), (3, .int x3)]) hX d_A_needsLaterBy_21 (by decide) rfl ?_
      refine z_iload (i := 4) hX d_A_needsLaterBy_23 rfl ?_
      refine z_iconst (v := -1) hX d_A_needsLaterBy_25 (by decide) ?_
      refine z_icmp_eq (tgt := 49) hX d_A_needsLaterBy_26 (by decide) (fun c26 => ?_) (fun c26 => ?_)
      · refine z_iinc (v := x3 + 1) (lv2 := [(3, .int (x3 + 1)), (4, .int r18), (0, .ref (ad 6)), (1, .int x1), (2, .int x2)]) hX d_A_needsLaterBy_49 4 rfl (by first | rfl | decide) (by decide) rfl ?_
        refine z_goto (tgt := 2) hX d_A_needsLaterBy_52 (by decide) ?_
        refine z_lv hX [2, 3, 4, 0] (lv2 := [(0, .ref (ad 6)), (1, .int x1), (2, .int x2), (3, .int (x3 + 1))]) rfl ?_
        exact ih _ _ _ _
      · refine z_aload_n (i := 0) hX d_A_needsLaterBy_29 rfl rfl ?_
        refine z_get (C := R_A) (T := F_A) (N := 11) hX in_A 6 rfl rfl 5 (by decide) w_field_A_25_A_5 rfl d_A_needsLaterBy_30 ?_
        refine z_iload (i := 4) hX d_A_needsLaterBy_33 rfl ?_
        refine z_iald hX 11 8 rfl rfl d_A_needsLaterBy_35 ?_
        refine z_aload_n (i := 0) hX d_A_needsLaterBy_36 rfl rfl ?_
        refine z_get (C := R_A) (T := F_A) (N := 11) hX in_A 6 rfl rfl 5 (by decide) w_field_A_25_A_5 rfl d_A_needsLaterBy_37 ?_
        refine z_iload_n (i := 1) hX d_A_needsLaterBy_40 rfl rfl ?_
        refine z_iald hX 11 8 rfl rfl d_A_needsLaterBy_41 ?_
        refine z_isub hX d_A_needsLaterBy_42 ?_
        refine z_iload_n (i := 2) hX d_A_needsLaterBy_43 rfl rfl ?_
        refine z_icmp_le (tgt := 49) hX d_A_needsLaterBy_44 (by decide) (fun c44 => ?_) (fun c44 => ?_)
        · refine z_iconst (v := 1) hX d_A_needsLaterBy_47 (by decide) ?_
          exact z_zret hR rfl d_A_needsLaterBy_48
        · refine z_iinc (v := x3 + 1) (lv2 := [(3, .int (x3 + 1)), (4, .int r18), (0, .ref (ad 6)), (1, .int x1), (2, .int x2)]) hX d_A_needsLaterBy_49 4 rfl (by first | rfl | decide) (by decide) rfl ?_
          refine z_goto (tgt := 2) hX d_A_needsLaterBy_52 (by decide) ?_
          refine z_lv hX [2, 3, 4, 0] (lv2 := [(0, .ref (ad 6)), (1, .int x1), (2, .int x2), (3, .int (x3 + 1))]) rfl ?_
          exact ih _ _ _ _
    · refine z_iconst (v := 0) hX d_A_needsLaterBy_55 (by decide) ?_
      exact z_zret hR rfl d_A_needsLaterBy_56
def fn_A_needsLaterBy (x1 : Int32) (x2 : Int32) (σ : zS) : Option (Int32 × zS) := fn_A_needsLaterBy_2 100 x1 x2 (0 : Int32) σ
set_option maxRecDepth 100000 in
set_option maxHeartbeats 4000000 in
theorem ct_A_needsLaterBy (l : Launch) (D : va_G) (ad : Nat → Nat) (ca : Nat → ClassId) (x1 : Int32) (x2 : Int32) (σ : zS) : zC zemI l y_A_needsLaterBy (Cond.code y_A_needsLaterBy b_A_needsLaterBy 5 (some .boolean) :: zTT) (zrm 1 22) D zcl (zKK D ca) (zwC ad ca) σ [.ref (ad 6), .int x1, .int x2] (fn_A_needsLaterBy x1 x2 σ) := by
  refine zmk_z (tys := zty ca) (by decide) (zKK_m D ca) (fun _ h => h.1) (Nat.le_of_ble_eq_true rfl) (fun V ex hX hR => ?_)
  show zJ V (fn_A_needsLaterBy_2 100 x1 x2 (0 : Int32) σ) (zwC ad ca σ ++ ex) 0 [(0, .ref (ad 6)), (1, .int x1), (2, .int x2)] []
  refine z_iconst (v := 0) hX d_A_needsLaterBy_0 (by decide) ?_
  refine z_istore_n (i := 3) (lv2 := [(3, .int (0 : Int32)), (0, .ref (ad 6)), (1, .int x1), (2, .int x2)]) hX d_A_needsLaterBy_1 rfl (by decide) rfl ?_
  refine z_lv hX [1, 2, 3, 0] (lv2 := [(0, .ref (ad 6)), (1, .int x1), (2, .int x2), (3, .int (0 : Int32))]) rfl ?_
  exact bk_A_needsLaterBy_2 l D ad ca hX hR 100 _ _ _ _
def fn_W_sameInOrder_u_19 : Nat → Int32 → Int32 → Int32 → zS → Option (Int32 × zS)
  | 0, _, _, _, _ => none
  | n + 1, x1, x2, x3, σ => zgd (zin x1 32) (if x3 < (σ.1 13 x1.toNatClampNeg) then zb (fn_W_valueAt_u x1 x3 σ) (fun r32 s32 => zb (fn_W_valueAt_u x2 x3 s32) (fun r38 s38 => if (lg_cmp r32 r38) = 0 then fn_W_sameInOrder_u_19 n x1 x2 (x3 + 1) s38 else some ((0 : Int32), s38))) else some ((1 : Int32), σ))
set_option maxRecDepth 100000 in
set_option maxHeartbeats 4000000 in
theorem bk_W_sameInOrder_u_19 (l : Launch) (D : va_G) (ad : Nat → Nat) (ca : Nat → ClassId) {V : zV Int32} {ex : va_W} (hX : zIs V l b_W_sameInOrder R_W zTT (zKK D ca) D zcl (zty ca) 4 (zrm 1 22)) (hR : zRz V b_W_sameInOrder (zwC ad ca) ex) : ∀ (n : Nat) (x1 : Int32) (x2 : Int32) (x3 : Int32) (σ : zS), zJ V (fn_W_sameInOrder_u_19 n x1 x2 x3 σ) (zwC ad ca σ ++ ex) 19 [(0, .ref (ad 12)), (1, .int x1), (2, .int x2), (3, .int x3)] [] := by
  intro n
  induction n with
  | zero => intros; exact z_none
  | succ n ih =>
    intro x1 x2 x3 σ
    show zJ V (zgd (zin x1 32) (if x3 < (σ.1 13 x1.toNatClampNeg) then zb (fn_W_valueAt_u x1 x3 σ) (fun r32 s32 => zb (fn_W_valueAt_u x2 x3 s32) (fun r38 s38 => if (lg_cmp r32 r38) = 0 then fn_W_sameInOrder_u_19 n x1 x2 (x3 + 1) s38 else some ((0 : Int32), s38))) else some ((1 : Int32), σ))) _ _ _ _
    refine z_iload_n (i := 3) hX d_W_sameInOrder_19 rfl rfl ?_
    refine z_aload_n (i := 0) hX d_W_sameInOrder_20 rfl rfl ?_
    refine z_get (C := R_W) (T := F_W) (N := 2) hX in_W 12 rfl rfl 0 (by decide) w_field_W_9_W_0 rfl d_W_sameInOrder_21 ?_
    refine z_iload_n (i := 1) hX d_W_sameInOrder_24 rfl rfl ?_
    refine z_iald hX 13 9 rfl rfl d_W_sameInOrder_25 ?_
    refine z_icmp_ge (tgt := 53) hX d_W_sameInOrder_26 (by decide) (fun c26 => ?_) (fun c26 => ?_)
    · refine z_aload_n (i := 0) hX d_W_sameInOrder_29 rfl rfl ?_
      refine z_iload_n (i := 1) hX d_W_sameInOrder_30 rfl rfl ?_
      refine z_iload_n (i := 3) hX d_W_sameInOrder_31 rfl rfl ?_
      refine z_callVl (wl := zwC ad ca) (C := R_W) (n := 2) (rest := []) hX [.int x1, .int x3] (ct_W_valueAt_u l D ad ca x1 x3 σ) gV_W_23 ⟨rfl, rfl⟩ ⟨by decide, by decide⟩ (by decide +kernel) rfl 12 rfl rfl rfl rfl (Nat.le_of_ble_eq_true rfl) d_W_sameInOrder_32 (fun r32 s32 => ?_)
      refine z_aload_n (i := 0) hX d_W_sameInOrder_35 rfl rfl ?_
      refine z_iload_n (i := 2) hX d_W_sameInOrder_36 rfl rfl ?_
      refine z_iload_n (i := 3) hX d_W_sameInOrder_37 rfl rfl ?_
      refine z_callVl (wl := zwC ad ca) (C := R_W) (n := 2) (rest := [.long r32]) hX [.int x2, .int x3] (ct_W_valueAt_u l D ad ca x2 x3 s32) gV_W_23 ⟨rfl, rfl⟩ ⟨by decide, by decide⟩ (by decide +kernel) rfl 12 rfl rfl rfl rfl (Nat.le_of_ble_eq_true rfl) d_W_sameInOrder_38 (fun r38 s38 => ?_)
      refine z_lcmp hX d_W_sameInOrder_41 ?_
      refine z_if_eq (tgt := 47) hX d_W_sameInOrder_42 (by decide) (fun c42 => ?_) (fun c42 => ?_)
      · refine z_iinc (v := x3 + 1) (lv2 := [(3, .int (x3 + 1)), (0, .ref (ad 12)), (1, .int x1), (2, .int x2)]) hX d_W_sameInOrder_47 3 rfl (by first | rfl | decide) (by decide) rfl ?_
        refine z_goto (tgt := 19) hX d_W_sameInOrder_50 (by decide) ?_
        refine z_lv hX [1, 2, 3, 0] (lv2 := [(0, .ref (ad 12)), (1, .int x1), (2, .int x2), (3, .int (x3 + 1))]) rfl ?_
        exact ih _ _ _ _
      · refine z_iconst (v := 0) hX d_W_sameInOrder_45 (by decide) ?_
        exact z_zret hR rfl d_W_sameInOrder_46
    · refine z_iconst (v := 1) hX d_W_sameInOrder_53 (by decide) ?_
      exact z_zret hR rfl d_W_sameInOrder_54
def fn_W_sameInOrder_u (x1 : Int32) (x2 : Int32) (σ : zS) : Option (Int32 × zS) := zgd (zin x1 32) (zgd (zin x2 32) (if (σ.1 13 x1.toNatClampNeg) = (σ.1 13 x2.toNatClampNeg) then fn_W_sameInOrder_u_19 100 x1 x2 (0 : Int32) σ else some ((0 : Int32), σ)))
set_option maxRecDepth 100000 in
set_option maxHeartbeats 4000000 in
theorem ct_W_sameInOrder_u (l : Launch) (D : va_G) (ad : Nat → Nat) (ca : Nat → ClassId) (x1 : Int32) (x2 : Int32) (σ : zS) : zC zemI l y_W_sameInOrder (Cond.code y_W_sameInOrder b_W_sameInOrder 4 (some .boolean) :: zTT) (zrm 1 22) D zcl (zKK D ca) (zwC ad ca) σ [.ref (ad 12), .int x1, .int x2] (fn_W_sameInOrder_u x1 x2 σ) := by
  refine zmk_z (tys := zty ca) (by decide) (zKK_m D ca) (fun _ h => h.1) (Nat.le_of_ble_eq_true rfl) (fun V ex hX hR => ?_)
  show zJ V (zgd (zin x1 32) (zgd (zin x2 32) (if (σ.1 13 x1.toNatClampNeg) = (σ.1 13 x2.toNatClampNeg) then fn_W_sameInOrder_u_19 100 x1 x2 (0 : Int32) σ else some ((0 : Int32), σ)))) (zwC ad ca σ ++ ex) 0 [(0, .ref (ad 12)), (1, .int x1), (2, .int x2)] []
  refine z_aload_n (i := 0) hX d_W_sameInOrder_0 rfl rfl ?_
  refine z_get (C := R_W) (T := F_W) (N := 2) hX in_W 12 rfl rfl 0 (by decide) w_field_W_9_W_0 rfl d_W_sameInOrder_1 ?_
  refine z_iload_n (i := 1) hX d_W_sameInOrder_4 rfl rfl ?_
  refine z_iald hX 13 9 rfl rfl d_W_sameInOrder_5 ?_
  refine z_aload_n (i := 0) hX d_W_sameInOrder_6 rfl rfl ?_
  refine z_get (C := R_W) (T := F_W) (N := 2) hX in_W 12 rfl rfl 0 (by decide) w_field_W_9_W_0 rfl d_W_sameInOrder_7 ?_
  refine z_iload_n (i := 2) hX d_W_sameInOrder_10 rfl rfl ?_
  refine z_iald hX 13 9 rfl rfl d_W_sameInOrder_11 ?_
  refine z_icmp_eq (tgt := 17) hX d_W_sameInOrder_12 (by decide) (fun c12 => ?_) (fun c12 => ?_)
  · refine z_iconst (v := 0) hX d_W_sameInOrder_17 (by decide) ?_
    refine z_istore_n (i := 3) (lv2 := [(3, .int (0 : Int32)), (0, .ref (ad 12)), (1, .int x1), (2, .int x2)]) hX d_W_sameInOrder_18 rfl (by decide) rfl ?_
    refine z_lv hX [1, 2, 3, 0] (lv2 := [(0, .ref (ad 12)), (1, .int x1), (2, .int x2), (3, .int (0 : Int32))]) rfl ?_
    exact bk_W_sameInOrder_u_19 l D ad ca hX hR 100 _ _ _ _
  · refine z_iconst (v := 0) hX d_W_sameInOrder_15 (by decide) ?_
    exact z_zret hR rfl d_W_sameInOrder_16
def fn_W_sameInOrder_n_19 : Nat → Int32 → Int32 → Int32 → zS → Option (Int32 × zS)
  | 0, _, _, _, _ => none
  | n + 1, x1, x2, x3, σ => zgd (zin x1 32) (if x3 < (σ.1 16 x1.toNatClampNeg) then zb (fn_W_valueAt_n x1 x3 σ) (fun r32 s32 => zb (fn_W_valueAt_n x2 x3 s32) (fun r38 s38 => if (lg_cmp r32 r38) = 0 then fn_W_sameInOrder_n_19 n x1 x2 (x3 + 1) s38 else some ((0 : Int32), s38))) else some ((1 : Int32), σ))
set_option maxRecDepth 100000 in
set_option maxHeartbeats 4000000 in
theorem bk_W_sameInOrder_n_19 (l : Launch) (D : va_G) (ad : Nat → Nat) (ca : Nat → ClassId) {V : zV Int32} {ex : va_W} (hX : zIs V l b_W_sameInOrder R_W zTT (zKK D ca) D zcl (zty ca) 4 (zrm 1 22)) (hR : zRz V b_W_sameInOrder (zwC ad ca) ex) : ∀ (n : Nat) (x1 : Int32) (x2 : Int32) (x3 : Int32) (σ : zS), zJ V (fn_W_sameInOrder_n_19 n x1 x2 x3 σ) (zwC ad ca σ ++ ex) 19 [(0, .ref (ad 15)), (1, .int x1), (2, .int x2), (3, .int x3)] [] := by
  intro n
  induction n with
  | zero => intros; exact z_none
  | succ n ih =>
    intro x1 x2 x3 σ
    show zJ V (zgd (zin x1 32) (if x3 < (σ.1 16 x1.toNatClampNeg) then zb (fn_W_valueAt_n x1 x3 σ) (fun r32 s32 => zb (fn_W_valueAt_n x2 x3 s32) (fun r38 s38 => if (lg_cmp r32 r38) = 0 then fn_W_sameInOrder_n_19 n x1 x2 (x3 + 1) s38 else some ((0 : Int32), s38))) else some ((1 : Int32), σ))) _ _ _ _
    refine z_iload_n (i := 3) hX d_W_sameInOrder_19 rfl rfl ?_
    refine z_aload_n (i := 0) hX d_W_sameInOrder_20 rfl rfl ?_
    refine z_get (C := R_W) (T := F_W) (N := 2) hX in_W 15 rfl rfl 0 (by decide) w_field_W_9_W_0 rfl d_W_sameInOrder_21 ?_
    refine z_iload_n (i := 1) hX d_W_sameInOrder_24 rfl rfl ?_
    refine z_iald hX 16 11 rfl rfl d_W_sameInOrder_25 ?_
    refine z_icmp_ge (tgt := 53) hX d_W_sameInOrder_26 (by decide) (fun c26 => ?_) (fun c26 => ?_)
    · refine z_aload_n (i := 0) hX d_W_sameInOrder_29 rfl rfl ?_
      refine z_iload_n (i := 1) hX d_W_sameInOrder_30 rfl rfl ?_
      refine z_iload_n (i := 3) hX d_W_sameInOrder_31 rfl rfl ?_
      refine z_callVl (wl := zwC ad ca) (C := R_W) (n := 2) (rest := []) hX [.int x1, .int x3] (ct_W_valueAt_n l D ad ca x1 x3 σ) gV_W_23 ⟨rfl, rfl⟩ ⟨by decide, by decide⟩ (by decide +kernel) rfl 15 rfl rfl rfl rfl (Nat.le_of_ble_eq_true rfl) d_W_sameInOrder_32 (fun r32 s32 => ?_)
      refine z_aload_n (i := 0) hX d_W_sameInOrder_35 rfl rfl ?_
      refine z_iload_n (i := 2) hX d_W_sameInOrder_36 rfl rfl ?_
      refine z_iload_n (i := 3) hX d_W_sameInOrder_37 rfl rfl ?_
      refine z_callVl (wl := zwC ad ca) (C := R_W) (n := 2) (rest := [.long r32]) hX [.int x2, .int x3] (ct_W_valueAt_n l D ad ca x2 x3 s32) gV_W_23 ⟨rfl, rfl⟩ ⟨by decide, by decide⟩ (by decide +kernel) rfl 15 rfl rfl rfl rfl (Nat.le_of_ble_eq_true rfl) d_W_sameInOrder_38 (fun r38 s38 => ?_)
      refine z_lcmp hX d_W_sameInOrder_41 ?_
      refine z_if_eq (tgt := 47) hX d_W_sameInOrder_42 (by decide) (fun c42 => ?_) (fun c42 => ?_)
      · refine z_iinc (v := x3 + 1) (lv2 := [(3, .int (x3 + 1)), (0, .ref (ad 15)), (1, .int x1), (2, .int x2)]) hX d_W_sameInOrder_47 3 rfl (by first | rfl | decide) (by decide) rfl ?_
        refine z_goto (tgt := 19) hX d_W_sameInOrder_50 (by decide) ?_
        refine z_lv hX [1, 2, 3, 0] (lv2 := [(0, .ref (ad 15)), (1, .int x1), (2, .int x2), (3, .int (x3 + 1))]) rfl ?_
        exact ih _ _ _ _
      · refine z_iconst (v := 0) hX d_W_sameInOrder_45 (by decide) ?_
        exact z_zret hR rfl d_W_sameInOrder_46
    · refine z_iconst (v := 1) hX d_W_sameInOrder_53 (by decide) ?_
      exact z_zret hR rfl d_W_sameInOrder_54
def fn_W_sameInOrder_n (x1 : Int32) (x2 : Int32) (σ : zS) : Option (Int32 × zS) := zgd (zin x1 32) (zgd (zin x2 32) (if (σ.1 16 x1.toNatClampNeg) = (σ.1 16 x2.toNatClampNeg) then fn_W_sameInOrder_n_19 100 x1 x2 (0 : Int32) σ else some ((0 : Int32), σ)))
set_option maxRecDepth 100000 in
set_option maxHeartbeats 4000000 in
theorem ct_W_sameInOrder_n (l : Launch) (D : va_G) (ad : Nat → Nat) (ca : Nat → ClassId) (x1 : Int32) (x2 : Int32) (σ : zS) : zC zemI l y_W_sameInOrder (Cond.code y_W_sameInOrder b_W_sameInOrder 4 (some .boolean) :: zTT) (zrm 1 22) D zcl (zKK D ca) (zwC ad ca) σ [.ref (ad 15), .int x1, .int x2] (fn_W_sameInOrder_n x1 x2 σ) := by
  refine zmk_z (tys := zty ca) (by decide) (zKK_m D ca) (fun _ h => h.1) (Nat.le_of_ble_eq_true rfl) (fun V ex hX hR => ?_)
  show zJ V (zgd (zin x1 32) (zgd (zin x2 32) (if (σ.1 16 x1.toNatClampNeg) = (σ.1 16 x2.toNatClampNeg) then fn_W_sameInOrder_n_19 100 x1 x2 (0 : Int32) σ else some ((0 : Int32), σ)))) (zwC ad ca σ ++ ex) 0 [(0, .ref (ad 15)), (1, .int x1), (2, .int x2)] []
  refine z_aload_n (i := 0) hX d_W_sameInOrder_0 rfl rfl ?_
  refine z_get (C := R_W) (T := F_W) (N := 2) hX in_W 15 rfl rfl 0 (by decide) w_field_W_9_W_0 rfl d_W_sameInOrder_1 ?_
  refine z_iload_n (i := 1) hX d_W_sameInOrder_4 rfl rfl ?_
  refine z_iald hX 16 11 rfl rfl d_W_sameInOrder_5 ?_
  refine z_aload_n (i := 0) hX d_W_sameInOrder_6 rfl rfl ?_
  refine z_get (C := R_W) (T := F_W) (N := 2) hX in_W 15 rfl rfl 0 (by decide) w_field_W_9_W_0 rfl d_W_sameInOrder_7 ?_
  refine z_iload_n (i := 2) hX d_W_sameInOrder_10 rfl rfl ?_
  refine z_iald hX 16 11 rfl rfl d_W_sameInOrder_11 ?_
  refine z_icmp_eq (tgt := 17) hX d_W_sameInOrder_12 (by decide) (fun c12 => ?_) (fun c12 => ?_)
  · refine z_iconst (v := 0) hX d_W_sameInOrder_17 (by decide) ?_
    refine z_istore_n (i := 3) (lv2 := [(3, .int (0 : Int32)), (0, .ref (ad 15)), (1, .int x1), (2, .int x2)]) hX d_W_sameInOrder_18 rfl (by decide) rfl ?_
    refine z_lv hX [1, 2, 3, 0] (lv2 := [(0, .ref (ad 15)), (1, .int x1), (2, .int x2), (3, .int (0 : Int32))]) rfl ?_
    exact bk_W_sameInOrder_n_19 l D ad ca hX hR 100 _ _ _ _
  · refine z_iconst (v := 0) hX d_W_sameInOrder_15 (by decide) ?_
    exact z_zret hR rfl d_W_sameInOrder_16
def fn_A_clashing (x1 : Int32) (x2 : Int32) (σ : zS) : Option (Int32 × zS) := zgd (zin x1 32) (zgd (zin x2 32) (if (lg_cmp (σ.2 7 x1.toNatClampNeg) (σ.2 7 x2.toNatClampNeg)) = 0 then zgd (zin x1 32) (zgd (zin x2 32) (if (σ.1 8 x1.toNatClampNeg) = (σ.1 8 x2.toNatClampNeg) then zgd (zin x1 32) (zgd (zin x2 32) (if (σ.1 9 x1.toNatClampNeg) = (σ.1 9 x2.toNatClampNeg) then zb (fn_W_sameInOrder_u x1 x2 σ) (fun r54 s54 => if r54 = 0 then if (0 : Int32) = 0 then some ((1 : Int32), s54) else some ((0 : Int32), s54) else zb (fn_W_sameInOrder_n x1 x2 s54) (fun r66 s66 => if r66 = 0 then if (0 : Int32) = 0 then some ((1 : Int32), s66) else some ((0 : Int32), s66) else if (1 : Int32) = 0 then some ((1 : Int32), s66) else some ((0 : Int32), s66))) else if (0 : Int32) = 0 then some ((1 : Int32), σ) else some ((0 : Int32), σ))) else if (0 : Int32) = 0 then some ((1 : Int32), σ) else some ((0 : Int32), σ))) else some ((0 : Int32), σ)))
set_option maxRecDepth 100000 in
set_option maxHeartbeats 4000000 in
theorem ct_A_clashing (l : Launch) (D : va_G) (ad : Nat → Nat) (ca : Nat → ClassId) (x1 : Int32) (x2 : Int32) (σ : zS) : zC zemI l y_A_clashing (Cond.code y_A_clashing b_A_clashing 4 (some .boolean) :: zTT) (zrm 2 45) D zcl (zKK D ca) (zwC ad ca) σ [.ref (ad 6), .int x1, .int x2] (fn_A_clashing x1 x2 σ) := by
  refine zmk_z (tys := zty ca) (by decide) (zKK_m D ca) (fun _ h => h.1) (Nat.le_of_ble_eq_true rfl) (fun V ex hX hR => ?_)
  show zJ V (zgd (zin x1 32) (zgd (zin x2 32) (if (lg_cmp (σ.2 7 x1.toNatClampNeg) (σ.2 7 x2.toNatClampNeg)) = 0 then zgd (zin x1 32) (zgd (zin x2 32) (if (σ.1 8 x1.toNatClampNeg) = (σ.1 8 x2.toNatClampNeg) then zgd (zin x1 32) (zgd (zin x2 32) (if (σ.1 9 x1.toNatClampNeg) = (σ.1 9 x2.toNatClampNeg) then zb (fn_W_sameInOrder_u x1 x2 σ) (fun r54 s54 => if r54 = 0 then if (0 : Int32) = 0 then some ((1 : Int32), s54) else some ((0 : Int32), s54) else zb (fn_W_sameInOrder_n x1 x2 s54) (fun r66 s66 => if r66 = 0 then if (0 : Int32) = 0 then some ((1 : Int32), s66) else some ((0 : Int32), s66) else if (1 : Int32) = 0 then some ((1 : Int32), s66) else some ((0 : Int32), s66))) else if (0 : Int32) = 0 then some ((1 : Int32), σ) else some ((0 : Int32), σ))) else if (0 : Int32) = 0 then some ((1 : Int32), σ) else some ((0 : Int32), σ))) else some ((0 : Int32), σ)))) (zwC ad ca σ ++ ex) 0 [(0, .ref (ad 6)), (1, .int x1), (2, .int x2)] []
  refine z_aload_n (i := 0) hX d_A_clashing_0 rfl rfl ?_
  refine z_get (C := R_A) (T := F_A) (N := 11) hX in_A 6 rfl rfl 1 (by decide) w_field_A_9_A_1 rfl d_A_clashing_1 ?_
  refine z_iload_n (i := 1) hX d_A_clashing_4 rfl rfl ?_
  refine z_lald hX 7 4 rfl rfl d_A_clashing_5 ?_
  refine z_aload_n (i := 0) hX d_A_clashing_6 rfl rfl ?_
  refine z_get (C := R_A) (T := F_A) (N := 11) hX in_A 6 rfl rfl 1 (by decide) w_field_A_9_A_1 rfl d_A_clashing_7 ?_
  refine z_iload_n (i := 2) hX d_A_clashing_10 rfl rfl ?_
  refine z_lald hX 7 4 rfl rfl d_A_clashing_11 ?_
  refine z_lcmp hX d_A_clashing_12 ?_
  refine z_if_eq (tgt := 18) hX d_A_clashing_13 (by decide) (fun c13 => ?_) (fun c13 => ?_)
  · refine z_aload_n (i := 0) hX d_A_clashing_18 rfl rfl ?_
    refine z_get (C := R_A) (T := F_A) (N := 11) hX in_A 6 rfl rfl 2 (by decide) w_field_A_15_A_2 rfl d_A_clashing_19 ?_
    refine z_iload_n (i := 1) hX d_A_clashing_22 rfl rfl ?_
    refine z_iald hX 8 5 rfl rfl d_A_clashing_23 ?_
    refine z_aload_n (i := 0) hX d_A_clashing_24 rfl rfl ?_
    refine z_get (C := R_A) (T := F_A) (N := 11) hX in_A 6 rfl rfl 2 (by decide) w_field_A_15_A_2 rfl d_A_clashing_25 ?_
    refine z_iload_n (i := 2) hX d_A_clashing_28 rfl rfl ?_
    refine z_iald hX 8 5 rfl rfl d_A_clashing_29 ?_
    refine z_icmp_ne (tgt := 76) hX d_A_clashing_30 (by decide) (fun c30 => ?_) (fun c30 => ?_)
    · refine z_aload_n (i := 0) hX d_A_clashing_33 rfl rfl ?_
      refine z_get (C := R_A) (T := F_A) (N := 11) hX in_A 6 rfl rfl 3 (by decide) w_field_A_19_A_3 rfl d_A_clashing_34 ?_
      refine z_iload_n (i := 1) hX d_A_clashing_37 rfl rfl ?_
      refine z_iald hX 9 6 rfl rfl d_A_clashing_38 ?_
      refine z_aload_n (i := 0) hX d_A_clashing_39 rfl rfl ?_
      refine z_get (C := R_A) (T := F_A) (N := 11) hX in_A 6 rfl rfl 3 (by decide) w_field_A_19_A_3 rfl d_A_clashing_40 ?_
      refine z_iload_n (i := 2) hX d_A_clashing_43 rfl rfl ?_
      refine z_iald hX 9 6 rfl rfl d_A_clashing_44 ?_
      refine z_icmp_ne (tgt := 76) hX d_A_clashing_45 (by decide) (fun c45 => ?_) (fun c45 => ?_)
      · refine z_aload_n (i := 0) hX d_A_clashing_48 rfl rfl ?_
        refine z_get (C := R_A) (T := F_A) (N := 11) hX in_A 6 rfl rfl 6 (by decide) w_field_A_31_A_6 rfl d_A_clashing_49 ?_
        refine z_iload_n (i := 1) hX d_A_clashing_52 rfl rfl ?_
        refine z_iload_n (i := 2) hX d_A_clashing_53 rfl rfl ?_
        refine z_callVi (wl := zwC ad ca) (C := R_W) (n := 2) (rest := []) hX [.int x1, .int x2] (ct_W_sameInOrder_u l D ad ca x1 x2 σ) gV_A_78 ⟨rfl, rfl⟩ ⟨by decide, by decide⟩ (by decide +kernel) rfl 12 rfl rfl rfl rfl (Nat.le_of_ble_eq_true rfl) d_A_clashing_54 (fun r54 s54 => ?_)
        refine z_if_eq (tgt := 76) hX d_A_clashing_57 (by decide) (fun c57 => ?_) (fun c57 => ?_)
        · refine z_iconst (v := 0) hX d_A_clashing_76 (by decide) ?_
          refine z_istore_n (i := 3) (lv2 := [(3, .int (0 : Int32)), (0, .ref (ad 6)), (1, .int x1), (2, .int x2)]) hX d_A_clashing_77 rfl (by decide) rfl ?_
          refine z_iload_n (i := 3) hX d_A_clashing_78 rfl rfl ?_
          refine z_if_ne (tgt := 86) hX d_A_clashing_79 (by decide) (fun c79 => ?_) (fun c79 => ?_)
          · refine z_iconst (v := 1) hX d_A_clashing_82 (by decide) ?_
            refine z_goto (tgt := 87) hX d_A_clashing_83 (by decide) ?_
            exact z_zret hR rfl d_A_clashing_87
          · refine z_iconst (v := 0) hX d_A_clashing_86 (by decide) ?_
            exact z_zret hR rfl d_A_clashing_87
        · refine z_aload_n (i := 0) hX d_A_clashing_60 rfl rfl ?_
          refine z_get (C := R_A) (T := F_A) (N := 11) hX in_A 6 rfl rfl 7 (by decide) w_field_A_35_A_7 rfl d_A_clashing_61 ?_
          refine z_iload_n (i := 1) hX d_A_clashing_64 rfl rfl ?_
          refine z_iload_n (i := 2) hX d_A_clashing_65 rfl rfl ?_
          refine z_callVi (wl := zwC ad ca) (C := R_W) (n := 2) (rest := []) hX [.int x1, .int x2] (ct_W_sameInOrder_n l D ad ca x1 x2 s54) gV_A_78 ⟨rfl, rfl⟩ ⟨by decide, by decide⟩ (by decide +kernel) rfl 15 rfl rfl rfl rfl (Nat.le_of_ble_eq_true rfl) d_A_clashing_66 (fun r66 s66 => ?_)
          refine z_if_eq (tgt := 76) hX d_A_clashing_69 (by decide) (fun c69 => ?_) (fun c69 => ?_)
          · refine z_iconst (v := 0) hX d_A_clashing_76 (by decide) ?_
            refine z_istore_n (i := 3) (lv2 := [(3, .int (0 : Int32)), (0, .ref (ad 6)), (1, .int x1), (2, .int x2)]) hX d_A_clashing_77 rfl (by decide) rfl ?_
            refine z_iload_n (i := 3) hX d_A_clashing_78 rfl rfl ?_
            refine z_if_ne (tgt := 86) hX d_A_clashing_79 (by decide) (fun c79 => ?_) (fun c79 => ?_)
            · refine z_iconst (v := 1) hX d_A_clashing_82 (by decide) ?_
              refine z_goto (tgt := 87) hX d_A_clashing_83 (by decide) ?_
              exact z_zret hR rfl d_A_clashing_87
            · refine z_iconst (v := 0) hX d_A_clashing_86 (by decide) ?_
              exact z_zret hR rfl d_A_clashing_87
          · refine z_iconst (v := 1) hX d_A_clashing_72 (by decide) ?_
            refine z_goto (tgt := 77) hX d_A_clashing_73 (by decide) ?_
            refine z_istore_n (i := 3) (lv2 := [(3, .int (1 : Int32)), (0, .ref (ad 6)), (1, .int x1), (2, .int x2)]) hX d_A_clashing_77 rfl (by decide) rfl ?_
            refine z_iload_n (i := 3) hX d_A_clashing_78 rfl rfl ?_
            refine z_if_ne (tgt := 86) hX d_A_clashing_79 (by decide) (fun c79 => ?_) (fun c79 => ?_)
            · refine z_iconst (v := 1) hX d_A_clashing_82 (by decide) ?_
              refine z_goto (tgt := 87) hX d_A_clashing_83 (by decide) ?_
              exact z_zret hR rfl d_A_clashing_87
            · refine z_iconst (v := 0) hX d_A_clashing_86 (by decide) ?_
              exact z_zret hR rfl d_A_clashing_87
      · refine z_iconst (v := 0) hX d_A_clashing_76 (by decide) ?_
        refine z_istore_n (i := 3) (lv2 := [(3, .int (0 : Int32)), (0, .ref (ad 6)), (1, .int x1), (2, .int x2)]) hX d_A_clashing_77 rfl (by decide) rfl ?_
        refine z_iload_n (i := 3) hX d_A_clashing_78 rfl rfl ?_
        refine z_if_ne (tgt := 86) hX d_A_clashing_79 (by decide) (fun c79 => ?_) (fun c79 => ?_)
        · refine z_iconst (v := 1) hX d_A_clashing_82 (by decide) ?_
          refine z_goto (tgt := 87) hX d_A_clashing_83 (by decide) ?_
          exact z_zret hR rfl d_A_clashing_87
        · refine z_iconst (v := 0) hX d_A_clashing_86 (by decide) ?_
          exact z_zret hR rfl d_A_clashing_87
    · refine z_iconst (v := 0) hX d_A_clashing_76 (by decide) ?_
      refine z_istore_n (i := 3) (lv2 := [(3, .int (0 : Int32)), (0, .ref (ad 6)), (1, .int x1), (2, .int x2)]) hX d_A_clashing_77 rfl (by decide) rfl ?_
      refine z_iload_n (i := 3) hX d_A_clashing_78 rfl rfl ?_
      refine z_if_ne (tgt := 86) hX d_A_clashing_79 (by decide) (fun c79 => ?_) (fun c79 => ?_)
      · refine z_iconst (v := 1) hX d_A_clashing_82 (by decide) ?_
        refine z_goto (tgt := 87) hX d_A_clashing_83 (by decide) ?_
        exact z_zret hR rfl d_A_clashing_87
      · refine z_iconst (v := 0) hX d_A_clashing_86 (by decide) ?_
        exact z_zret hR rfl d_A_clashing_87
  · refine z_iconst (v := 0) hX d_A_clashing_16 (by decide) ?_
    exact z_zret hR rfl d_A_clashing_17
def fn_A_clashesWithAny_2 : Nat → Int32 → Int32 → zS → Option (Int32 × zS)
  | 0, _, _, _ => none
  | n + 1, x1, x2, σ => if x2 < (σ.1 220 0) then zb (fn_A_clashing x1 x2 σ) (fun r13 s13 => if r13 = 0 then fn_A_clashesWithAny_2 n x1 (x2 + 1) s13 else some ((1 : Int32), s13)) else some ((0 : Int32), σ)
set_option maxRecDepth 100000 in
set_option maxHeartbeats 4000000 in
theorem bk_A_clashesWithAny_2 (l : Launch) (D : va_G) (ad : Nat → Nat) (ca : Nat → ClassId) {V : zV Int32} {ex : va_W} (hX : zIs V l b_A_clashesWithAny R_A zTT (zKK D ca) D zcl (zty ca) 3 (zrm 3 68)) (hR : zRz V b_A_clashesWithAny (zwC ad ca) ex) : ∀ (n : Nat) (x1 : Int32) (x2 : Int32) (σ : zS), zJ V (fn_A_clashesWithAny_2 n x1 x2 σ) (zwC ad ca σ ++ ex) 2 [(0, .ref (ad 6)), (1, .int x1), (2, .int x2)] [] := by
  intro n
  induction n with
  | zero => intros; exact z_none
  | succ n ih =>
    intro x1 x2 σ
    show zJ V (if x2 < (σ.1 220 0) then zb (fn_A_clashing x1 x2 σ) (fun r13 s13 => if r13 = 0 then fn_A_clashesWithAny_2 n x1 (x2 + 1) s13 else some ((1 : Int32), s13)) else some ((0 : Int32), σ)) _ _ _ _
    refine z_iload_n (i := 2) hX d_A_clashesWithAny_2 rfl rfl ?_
    refine z_aload_n (i := 0) hX d_A_clashesWithAny_3 rfl rfl ?_
    refine z_get (C := R_A) (T := F_A) (N := 11) hX in_A 6 rfl rfl 0 (by decide) w_field_A_47_A_0 rfl d_A_clashesWithAny_4 ?_
    refine z_icmp_ge (tgt := 27) hX d_A_clashesWithAny_7 (by decide) (fun c7 => ?_) (fun c7 => ?_)
    · refine z_aload_n (i := 0) hX d_A_clashesWithAny_10 rfl rfl ?_
      refine z_iload_n (i := 1) hX d_A_clashesWithAny_11 rfl rfl ?_
      refine z_iload_n (i := 2) hX d_A_clashesWithAny_12 rfl rfl ?_
      refine z_callVi (wl := zwC ad ca) (C := R_A) (n := 2) (rest := []) hX [.int x1, .int x2] (ct_A_clashing l D ad ca x1 x2 σ) gV_A_74 ⟨rfl, rfl⟩ ⟨by decide, by decide⟩ (by decide +kernel) rfl 6 rfl rfl rfl rfl (Nat.le_of_ble_eq_true rfl) d_A_clashesWithAny_13 (fun r13 s13 => ?_)
      refine z_if_eq (tgt := 21) hX d_A_clashesWithAny_16 (by decide) (fun c16 => ?_) (fun c16 => ?_)
      · refine z_iinc (v := x2 + 1) (lv2 := [(2, .int (x2 + 1)), (0, .ref (ad 6)), (1, .int x1)]) hX d_A_clashesWithAny_21 2 rfl (by first | rfl | decide) (by decide) rfl ?_
        refine z_goto (tgt := 2) hX d_A_clashesWithAny_24 (by decide) ?_
        refine z_lv hX [1, 2, 0] (lv2 := [(0, .ref (ad 6)), (1, .int x1), (2, .int (x2 + 1))]) rfl ?_
        exact ih _ _ _
      · refine z_iconst (v := 1) hX d_A_clashesWithAny_19 (by decide) ?_
        exact z_zret hR rfl d_A_clashesWithAny_20
    · refine z_iconst (v := 0) hX d_A_clashesWithAny_27 (by decide) ?_
      exact z_zret hR rfl d_A_clashesWithAny_28
def fn_A_clashesWithAny (x1 : Int32) (σ : zS) : Option (Int32 × zS) := fn_A_clashesWithAny_2 100 x1 (0 : Int32) σ
set_option maxRecDepth 100000 in
set_option maxHeartbeats 4000000 in
theorem ct_A_clashesWithAny (l : Launch) (D : va_G) (ad : Nat → Nat) (ca : Nat → ClassId) (x1 : Int32) (σ : zS) : zC zemI l y_A_clashesWithAny (Cond.code y_A_clashesWithAny b_A_clashesWithAny 3 (some .boolean) :: zTT) (zrm 3 68) D zcl (zKK D ca) (zwC ad ca) σ [.ref (ad 6), .int x1] (fn_A_clashesWithAny x1 σ) := by
  refine zmk_z (tys := zty ca) (by decide) (zKK_m D ca) (fun _ h => h.1) (Nat.le_of_ble_eq_true rfl) (fun V ex hX hR => ?_)
  show zJ V (fn_A_clashesWithAny_2 100 x1 (0 : Int32) σ) (zwC ad ca σ ++ ex) 0 [(0, .ref (ad 6)), (1, .int x1)] []
  refine z_iconst (v := 0) hX d_A_clashesWithAny_0 (by decide) ?_
  refine z_istore_n (i := 2) (lv2 := [(2, .int (0 : Int32)), (0, .ref (ad 6)), (1, .int x1)]) hX d_A_clashesWithAny_1 rfl (by decide) rfl ?_
  refine z_lv hX [1, 2, 0] (lv2 := [(0, .ref (ad 6)), (1, .int x1), (2, .int (0 : Int32))]) rfl ?_
  exact bk_A_clashesWithAny_2 l D ad ca hX hR 100 _ _ _
def fn_A_restsOnNothing (x1 : Int32) (σ : zS) : Option (Int32 × zS) := zgd (zin x1 32) (if (σ.1 13 x1.toNatClampNeg) = 0 then zgd (zin x1 32) (if (σ.1 16 x1.toNatClampNeg) = 0 then some ((1 : Int32), σ) else some ((0 : Int32), σ)) else some ((0 : Int32), σ))
set_option maxRecDepth 100000 in
set_option maxHeartbeats 4000000 in
theorem ct_A_restsOnNothing (l : Launch) (D : va_G) (ad : Nat → Nat) (ca : Nat → ClassId) (x1 : Int32) (σ : zS) : zC zemI l y_A_restsOnNothing (Cond.code y_A_restsOnNothing b_A_restsOnNothing 2 (some .boolean) :: zTT) (zrm 0 0) D zcl (zKK D ca) (zwC ad ca) σ [.ref (ad 6), .int x1] (fn_A_restsOnNothing x1 σ) := by
  refine zmk_z (tys := zty ca) (by decide) (zKK_m D ca) (fun _ h => h.1) (Nat.le_of_ble_eq_true rfl) (fun V ex hX hR => ?_)
  show zJ V (zgd (zin x1 32) (if (σ.1 13 x1.toNatClampNeg) = 0 then zgd (zin x1 32) (if (σ.1 16 x1.toNatClampNeg) = 0 then some ((1 : Int32), σ) else some ((0 : Int32), σ)) else some ((0 : Int32), σ))) (zwC ad ca σ ++ ex) 0 [(0, .ref (ad 6)), (1, .int x1)] []
  refine z_aload_n (i := 0) hX d_A_restsOnNothing_0 rfl rfl ?_
  refine z_get (C := R_A) (T := F_A) (N := 11) hX in_A 6 rfl rfl 6 (by decide) w_field_A_31_A_6 rfl d_A_restsOnNothing_1 ?_
  refine z_get (C := R_W) (T := F_W) (N := 2) hX in_W 12 rfl rfl 0 (by decide) w_field_A_55_W_0 rfl d_A_restsOnNothing_4 ?_
  refine z_iload_n (i := 1) hX d_A_restsOnNothing_7 rfl rfl ?_
  refine z_iald hX 13 9 rfl rfl d_A_restsOnNothing_8 ?_
  refine z_if_ne (tgt := 28) hX d_A_restsOnNothing_9 (by decide) (fun c9 => ?_) (fun c9 => ?_)
  · refine z_aload_n (i := 0) hX d_A_restsOnNothing_12 rfl rfl ?_
    refine z_get (C := R_A) (T := F_A) (N := 11) hX in_A 6 rfl rfl 7 (by decide) w_field_A_35_A_7 rfl d_A_restsOnNothing_13 ?_
    refine z_get (C := R_W) (T := F_W) (N := 2) hX in_W 15 rfl rfl 0 (by decide) w_field_A_55_W_0 rfl d_A_restsOnNothing_16 ?_
    refine z_iload_n (i := 1) hX d_A_restsOnNothing_19 rfl rfl ?_
    refine z_iald hX 16 11 rfl rfl d_A_restsOnNothing_20 ?_
    refine z_if_ne (tgt := 28) hX d_A_restsOnNothing_21 (by decide) (fun c21 => ?_) (fun c21 => ?_)
    · refine z_iconst (v := 1) hX d_A_restsOnNothing_24 (by decide) ?_
      refine z_goto (tgt := 29) hX d_A_restsOnNothing_25 (by decide) ?_
      exact z_zret hR rfl d_A_restsOnNothing_29
    · refine z_iconst (v := 0) hX d_A_restsOnNothing_28 (by decide) ?_
      exact z_zret hR rfl d_A_restsOnNothing_29
  · refine z_iconst (v := 0) hX d_A_restsOnNothing_28 (by decide) ?_
    exact z_zret hR rfl d_A_restsOnNothing_29
def fn_Q_reach_c (x1 : Int32) (σ : zS) : Option (Unit × zS) := if x1 = (-1 : Int32) then some ((), σ) else zb (fn_P_hasBit (σ.1 662 0) x1 σ) (fun r10 s10 => if r10 = 0 then if (s10.1 660 0) < (32 : Int32) then zst (zF s10 662 ((s10.1 662 0) ||| (zshl (1 : Int32) x1))) (fun s35 => zgd (zin (s35.1 660 0) 32) (zst (zI s35 29 (s35.1 660 0).toNatClampNeg x1) (fun s47 => zst (zF s47 660 ((s47.1 660 0) + (1 : Int32))) (fun s55 => some ((), s55))))) else some ((), s10) else some ((), s10))
set_option maxRecDepth 100000 in
set_option maxHeartbeats 4000000 in
theorem ct_Q_reach_c (l : Launch) (D : va_G) (ad : Nat → Nat) (ca : Nat → ClassId) (x1 : Int32) (σ : zS) : zC zemV l y_Q_reach (Cond.code y_Q_reach b_Q_reach 2 none :: zTT) (zrm 1 21) D zcl (zKK D ca) (zwC ad ca) σ [.ref (ad 28), .int x1] (fn_Q_reach_c x1 σ) := by
  refine zmk_v (tys := zty ca) (by decide) (zKK_m D ca) (fun _ h => h.1) (Nat.le_of_ble_eq_true rfl) (fun V ex hX hR => ?_)
  show zJ V (if x1 = (-1 : Int32) then some ((), σ) else zb (fn_P_hasBit (σ.1 662 0) x1 σ) (fun r10 s10 => if r10 = 0 then if (s10.1 660 0) < (32 : Int32) then zst (zF s10 662 ((s10.1 662 0) ||| (zshl (1 : Int32) x1))) (fun s35 => zgd (zin (s35.1 660 0) 32) (zst (zI s35 29 (s35.1 660 0).toNatClampNeg x1) (fun s47 => zst (zF s47 660 ((s47.1 660 0) + (1 : Int32))) (fun s55 => some ((), s55))))) else some ((), s10) else some ((), s10))) (zwC ad ca σ ++ ex) 0 [(0, .ref (ad 28)), (1, .int x1)] []
  refine z_iload_n (i := 1) hX d_Q_reach_0 rfl rfl ?_
  refine z_iconst (v := -1) hX d_Q_reach_1 (by decide) ?_
  refine z_icmp_eq (tgt := 25) hX d_Q_reach_2 (by decide) (fun c2 => ?_) (fun c2 => ?_)
  · exact z_vret hR d_Q_reach_25
  · refine z_aload_n (i := 0) hX d_Q_reach_5 rfl rfl ?_
    refine z_get (C := R_Q) (T := F_Q) (N := 3) hX in_Q 28 rfl rfl 2 (by decide) w_field_Q_19_Q_2 rfl d_Q_reach_6 ?_
    refine z_iload_n (i := 1) hX d_Q_reach_9 rfl rfl ?_
    refine z_callSNi (wl := zwC ad ca) (n := 2) (rest := []) hX [.int (σ.1 662 0), .int x1] (ct_P_hasBit l D ca (zwC ad ca) (σ.1 662 0) x1 σ) gN_Q_41 (gN_Q_41_k D ca) w_stat_P_hasBit w_init_P ⟨rfl, rfl⟩ ⟨by decide, by decide⟩ (by decide +kernel) rfl rfl (Nat.le_of_ble_eq_true rfl) d_Q_reach_10 (fun r10 s10 => ?_)
    refine z_if_ne (tgt := 25) hX d_Q_reach_13 (by decide) (fun c13 => ?_) (fun c13 => ?_)
    · refine z_aload_n (i := 0) hX d_Q_reach_16 rfl rfl ?_
      refine z_get (C := R_Q) (T := F_Q) (N := 3) hX in_Q 28 rfl rfl 0 (by decide) w_field_Q_15_Q_0 rfl d_Q_reach_17 ?_
      refine z_bipush (v := 32) hX d_Q_reach_20 (by decide) ?_
      refine z_icmp_lt (tgt := 26) hX d_Q_reach_22 (by decide) (fun c22 => ?_) (fun c22 => ?_)
      · refine z_aload_n (i := 0) hX d_Q_reach_26 rfl rfl ?_
        refine z_dup hX d_Q_reach_27 rfl ?_
        refine z_get (C := R_Q) (T := F_Q) (N := 3) hX in_Q 28 rfl rfl 2 (by decide) w_field_Q_19_Q_2 rfl d_Q_reach_28 ?_
        refine z_iconst (v := 1) hX d_Q_reach_31 (by decide) ?_
        refine z_iload_n (i := 1) hX d_Q_reach_32 rfl rfl ?_
        refine z_ishl hX d_Q_reach_33 ?_
        refine z_ior hX d_Q_reach_34 ?_
        refine z_put (C := R_Q) (T := F_Q) (N := 3) (wl := zwC ad ca) (ex := ex) (x9 := (zF s10 662 ((s10.1 662 0) ||| (zshl (1 : Int32) x1)))) hX in_Q t_Q t_Q_ok n_Q 28 rfl rfl 2 (by decide) w_field_Q_19_Q_2 rfl rfl rfl (Nat.le_of_ble_eq_true rfl) rfl d_Q_reach_35 (fun s35 => ?_)
        refine z_aload_n (i := 0) hX d_Q_reach_38 rfl rfl ?_
        refine z_get (C := R_Q) (T := F_Q) (N := 3) hX in_Q 28 rfl rfl 1 (by decide) w_field_Q_9_Q_1 rfl d_Q_reach_39 ?_
        refine z_aload_n (i := 0) hX d_Q_reach_42 rfl rfl ?_
        refine z_get (C := R_Q) (T := F_Q) (N := 3) hX in_Q 28 rfl rfl 0 (by decide) w_field_Q_15_Q_0 rfl d_Q_reach_43 ?_
        refine z_iload_n (i := 1) hX d_Q_reach_46 rfl rfl ?_
        refine z_iast (wl := zwC ad ca) (ex := ex) (x9 := (zI s35 29 (s35.1 660 0).toNatClampNeg x1)) hX 29 20 rfl rfl rfl d_Q_reach_47 (fun s47 => ?_)
        refine z_aload_n (i := 0) hX d_Q_reach_48 rfl rfl ?_
        refine z_dup hX d_Q_reach_49 rfl ?_
        refine z_get (C := R_Q) (T := F_Q) (N := 3) hX in_Q 28 rfl rfl 0 (by decide) w_field_Q_15_Q_0 rfl d_Q_reach_50 ?_
        refine z_iconst (v := 1) hX d_Q_reach_53 (by decide) ?_
        refine z_iadd hX d_Q_reach_54 ?_
        refine z_put (C := R_Q) (T := F_Q) (N := 3) (wl := zwC ad ca) (ex := ex) (x9 := (zF s47 660 ((s47.1 660 0) + (1 : Int32)))) hX in_Q t_Q t_Q_ok n_Q 28 rfl rfl 0 (by decide) w_field_Q_15_Q_0 rfl rfl rfl (Nat.le_of_ble_eq_true rfl) rfl d_Q_reach_55 (fun s55 => ?_)
        exact z_vret hR d_Q_reach_58
      · exact z_vret hR d_Q_reach_25
    · exact z_vret hR d_Q_reach_25
def fn_Q_walk_c_42 (k17 : Int32 → zS → Option (Unit × zS)) : Nat → Int32 → Int32 → Int32 → zS → Option (Unit × zS)
  | 0, _, _, _, _ => none
  | n + 1, x3, x4, x5, σ => zgd (zin x4 32) (if x5 < (σ.1 16 x4.toNatClampNeg) then zb (fn_A_metByAt x4 x5 σ) (fun r63 s63 => zb (fn_Q_reach_c r63 s63) (fun r66 s66 => fn_Q_walk_c_42 k17 n x3 x4 (x5 + 1) s66)) else k17 (x3 + 1) σ)
set_option maxRecDepth 100000 in
set_option maxHeartbeats 4000000 in
theorem bk_Q_walk_c_42 (l : Launch) (D : va_G) (ad : Nat → Nat) (ca : Nat → ClassId) {V : zV Unit} {ex : va_W} (hX : zIs V l b_Q_walk R_Q zTT (zKK D ca) D zcl (zty ca) 6 (zrm 2 42)) (hR : zRv V b_Q_walk (zwC ad ca) ex) (k17 : Int32 → zS → Option (Unit × zS)) (hk17 : ∀ (z3 : Int32) (σ : zS), zJ V (k17 z3 σ) (zwC ad ca σ ++ ex) 17 [(0, .ref (ad 28)), (1, .ref (ad 6)), (3, .int z3)] []) : ∀ (n : Nat) (x3 : Int32) (x4 : Int32) (x5 : Int32) (σ : zS), zJ V (fn_Q_walk_c_42 k17 n x3 x4 x5 σ) (zwC ad ca σ ++ ex) 42 [(0, .ref (ad 28)), (1, .ref (ad 6)), (3, .int x3), (4, .int x4), (5, .int x5)] [] := by
  intro n
  induction n with
  | zero => intros; exact z_none
  | succ n ih =>
    intro x3 x4 x5 σ
    show zJ V (zgd (zin x4 32) (if x5 < (σ.1 16 x4.toNatClampNeg) then zb (fn_A_metByAt x4 x5 σ) (fun r63 s63 => zb (fn_Q_reach_c r63 s63) (fun r66 s66 => fn_Q_walk_c_42 k17 n x3 x4 (x5 + 1) s66)) else k17 (x3 + 1) σ)) _ _ _ _
    refine z_iload (i := 5) hX d_Q_walk_42 rfl ?_
    refine z_aload_n (i := 1) hX d_Q_walk_44 rfl rfl ?_
    refine z_get (C := R_A) (T := F_A) (N := 11) hX in_A 6 rfl rfl 7 (by decide) w_field_Q_26_A_7 rfl d_Q_walk_45 ?_
    refine z_get (C := R_W) (T := F_W) (N := 2) hX in_W 15 rfl rfl 0 (by decide) w_field_Q_32_W_0 rfl d_Q_walk_48 ?_
    refine z_iload (i := 4) hX d_Q_walk_51 rfl ?_
    refine z_iald hX 16 11 rfl rfl d_Q_walk_53 ?_
    refine z_icmp_ge (tgt := 75) hX d_Q_walk_54 (by decide) (fun c54 => ?_) (fun c54 => ?_)
    · refine z_aload_n (i := 0) hX d_Q_walk_57 rfl rfl ?_
      refine z_aload_n (i := 1) hX d_Q_walk_58 rfl rfl ?_
      refine z_iload (i := 4) hX d_Q_walk_59 rfl ?_
      refine z_iload (i := 5) hX d_Q_walk_61 rfl ?_
      refine z_callVi (wl := zwC ad ca) (C := R_A) (n := 2) (rest := [.ref (ad 28)]) hX [.int x4, .int x5] (ct_A_metByAt l D ad ca x4 x5 σ) gV_Q_37 ⟨rfl, rfl⟩ ⟨by decide, by decide⟩ (by decide +kernel) rfl 6 rfl rfl rfl rfl (Nat.le_of_ble_eq_true rfl) d_Q_walk_63 (fun r63 s63 => ?_)
      refine z_callVv (wl := zwC ad ca) (C := R_Q) (n := 1) (rest := []) hX [.int r63] (ct_Q_reach_c l D ad ca r63 s63) gV_Q_22 ⟨rfl, rfl⟩ ⟨by decide, by decide⟩ (by decide +kernel) rfl 28 rfl rfl rfl rfl (Nat.le_of_ble_eq_true rfl) d_Q_walk_66 (fun r66 s66 => ?_)
      refine z_iinc (v := x5 + 1) (lv2 := [(5, .int (x5 + 1)), (0, .ref (ad 28)), (1, .ref (ad 6)), (3, .int x3), (4, .int x4)]) hX d_Q_walk_69 4 rfl (by first | rfl | decide) (by decide) rfl ?_
      refine z_goto (tgt := 42) hX d_Q_walk_72 (by decide) ?_
      refine z_lv hX [1, 2, 3, 4, 0] (lv2 := [(0, .ref (ad 28)), (1, .ref (ad 6)), (3, .int x3), (4, .int x4), (5, .int (x5 + 1))]) rfl ?_
      exact ih _ _ _ _
    · refine z_iinc (v := x3 + 1) (lv2 := [(3, .int (x3 + 1)), (0, .ref (ad 28)), (1, .ref (ad 6)), (4, .int x4), (5, .int x5)]) hX d_Q_walk_75 2 rfl (by first | rfl | decide) (by decide) rfl ?_
      refine z_goto (tgt := 17) hX d_Q_walk_78 (by decide) ?_
      refine z_lv hX [1, 2, 0] (lv2 := [(0, .ref (ad 28)), (1, .ref (ad 6)), (3, .int (x3 + 1))]) rfl ?_
      exact hk17 _ _
def fn_Q_walk_c_17 : Nat → Int32 → zS → Option (Unit × zS)
  | 0, _, _ => none
  | n + 1, x3, σ => if x3 < (32 : Int32) then if x3 < (σ.1 660 0) then zgd (zin x3 32) (fn_Q_walk_c_42 (fn_Q_walk_c_17 n) 100 x3 (σ.1 29 x3.toNatClampNeg) (0 : Int32) σ) else some ((), σ) else some ((), σ)
set_option maxRecDepth 100000 in
set_option maxHeartbeats 4000000 in
theorem bk_Q_walk_c_17 (l : Launch) (D : va_G) (ad : Nat → Nat) (ca : Nat → ClassId) {V : zV Unit} {ex : va_W} (hX : zIs V l b_Q_walk R_Q zTT (zKK D ca) D zcl (zty ca) 6 (zrm 2 42)) (hR : zRv V b_Q_walk (zwC ad ca) ex) : ∀ (n : Nat) (x3 : Int32) (σ : zS), zJ V (fn_Q_walk_c_17 n x3 σ) (zwC ad ca σ ++ ex) 17 [(0, .ref (ad 28)), (1, .ref (ad 6)), (3, .int x3)] [] := by
  intro n
  induction n with
  | zero => intros; exact z_none
  | succ n ih =>
    intro x3 σ
    show zJ V (if x3 < (32 : Int32) then if x3 < (σ.1 660 0) then zgd (zin x3 32) (fn_Q_walk_c_42 (fn_Q_walk_c_17 n) 100 x3 (σ.1 29 x3.toNatClampNeg) (0 : Int32) σ) else some ((), σ) else some ((), σ)) _ _ _ _
    refine z_iload_n (i := 3) hX d_Q_walk_17 rfl rfl ?_
    refine z_bipush (v := 32) hX d_Q_walk_18 (by decide) ?_
    refine z_icmp_ge (tgt := 81) hX d_Q_walk_20 (by decide) (fun c20 => ?_) (fun c20 => ?_)
    · refine z_iload_n (i := 3) hX d_Q_walk_23 rfl rfl ?_
      refine z_aload_n (i := 0) hX d_Q_walk_24 rfl rfl ?_
      refine z_get (C := R_Q) (T := F_Q) (N := 3) hX in_Q 28 rfl rfl 0 (by decide) w_field_Q_15_Q_0 rfl d_Q_walk_25 ?_
      refine z_icmp_ge (tgt := 81) hX d_Q_walk_28 (by decide) (fun c28 => ?_) (fun c28 => ?_)
      · refine z_aload_n (i := 0) hX d_Q_walk_31 rfl rfl ?_
        refine z_get (C := R_Q) (T := F_Q) (N := 3) hX in_Q 28 rfl rfl 1 (by decide) w_field_Q_9_Q_1 rfl d_Q_walk_32 ?_
        refine z_iload_n (i := 3) hX d_Q_walk_35 rfl rfl ?_
        refine z_iald hX 29 20 rfl rfl d_Q_walk_36 ?_
        refine z_istore (i := 4) (lv2 := [(4, .int (σ.1 29 x3.toNatClampNeg)), (0, .ref (ad 28)), (1, .ref (ad 6)), (3, .int x3)]) hX d_Q_walk_37 (by decide) rfl ?_
        refine z_iconst (v := 0) hX d_Q_walk_39 (by decide) ?_
        refine z_istore (i := 5) (lv2 := [(5, .int (0 : Int32)), (4, .int (σ.1 29 x3.toNatClampNeg)), (0, .ref (ad 28)), (1, .ref (ad 6)), (3, .int x3)]) hX d_Q_walk_40 (by decide) rfl ?_
        refine z_lv hX [2, 3, 4, 1, 0] (lv2 := [(0, .ref (ad 28)), (1, .ref (ad 6)), (3, .int x3), (4, .int (σ.1 29 x3.toNatClampNeg)), (5, .int (0 : Int32))]) rfl ?_
        exact bk_Q_walk_c_42 l D ad ca hX hR (fn_Q_walk_c_17 n) ih 100 _ _ _ _
      · exact z_vret hR d_Q_walk_81
    · exact z_vret hR d_Q_walk_81
def fn_Q_walk_c (x2 : Int32) (σ : zS) : Option (Unit × zS) := zst (zF σ 660 (0 : Int32)) (fun s2 => zst (zF s2 662 (0 : Int32)) (fun s7 => zb (fn_Q_reach_c x2 s7) (fun r12 s12 => fn_Q_walk_c_17 100 (0 : Int32) s12)))
set_option maxRecDepth 100000 in
set_option maxHeartbeats 4000000 in
theorem ct_Q_walk_c (l : Launch) (D : va_G) (ad : Nat → Nat) (ca : Nat → ClassId) (x2 : Int32) (σ : zS) : zC zemV l y_Q_walk (Cond.code y_Q_walk b_Q_walk 6 none :: zTT) (zrm 2 42) D zcl (zKK D ca) (zwC ad ca) σ [.ref (ad 28), .ref (ad 6), .int x2] (fn_Q_walk_c x2 σ) := by
  refine zmk_v (tys := zty ca) (by decide) (zKK_m D ca) (fun _ h => h.1) (Nat.le_of_ble_eq_true rfl) (fun V ex hX hR => ?_)
  show zJ V (zst (zF σ 660 (0 : Int32)) (fun s2 => zst (zF s2 662 (0 : Int32)) (fun s7 => zb (fn_Q_reach_c x2 s7) (fun r12 s12 => fn_Q_walk_c_17 100 (0 : Int32) s12)))) (zwC ad ca σ ++ ex) 0 [(0, .ref (ad 28)), (1, .ref (ad 6)), (2, .int x2)] []
  refine z_aload_n (i := 0) hX d_Q_walk_0 rfl rfl ?_
  refine z_iconst (v := 0) hX d_Q_walk_1 (by decide) ?_
  refine z_put (C := R_Q) (T := F_Q) (N := 3) (wl := zwC ad ca) (ex := ex) (x9 := (zF σ 660 (0 : Int32))) hX in_Q t_Q t_Q_ok n_Q 28 rfl rfl 0 (by decide) w_field_Q_15_Q_0 rfl rfl rfl (Nat.le_of_ble_eq_true rfl) rfl d_Q_walk_2 (fun s2 => ?_)
  refine z_aload_n (i := 0) hX d_Q_walk_5 rfl rfl ?_
  refine z_iconst (v := 0) hX d_Q_walk_6 (by decide) ?_
  refine z_put (C := R_Q) (T := F_Q) (N := 3) (wl := zwC ad ca) (ex := ex) (x9 := (zF s2 662 (0 : Int32))) hX in_Q t_Q t_Q_ok n_Q 28 rfl rfl 2 (by decide) w_field_Q_19_Q_2 rfl rfl rfl (Nat.le_of_ble_eq_true rfl) rfl d_Q_walk_7 (fun s7 => ?_)
  refine z_aload_n (i := 0) hX d_Q_walk_10 rfl rfl ?_
  refine z_iload_n (i := 2) hX d_Q_walk_11 rfl rfl ?_
  refine z_callVv (wl := zwC ad ca) (C := R_Q) (n := 1) (rest := []) hX [.int x2] (ct_Q_reach_c l D ad ca x2 s7) gV_Q_22 ⟨rfl, rfl⟩ ⟨by decide, by decide⟩ (by decide +kernel) rfl 28 rfl rfl rfl rfl (Nat.le_of_ble_eq_true rfl) d_Q_walk_12 (fun r12 s12 => ?_)
  refine z_iconst (v := 0) hX d_Q_walk_15 (by decide) ?_
  refine z_istore_n (i := 3) (lv2 := [(3, .int (0 : Int32)), (0, .ref (ad 28)), (1, .ref (ad 6)), (2, .int x2)]) hX d_Q_walk_16 rfl (by decide) rfl ?_
  refine z_lv hX [1, 2, 0] (lv2 := [(0, .ref (ad 28)), (1, .ref (ad 6)), (3, .int (0 : Int32))]) rfl ?_
  exact bk_Q_walk_c_17 l D ad ca hX hR 100 _ _
def fn_P_isBroken (x1 : Int32) (x2 : Int32) (σ : zS) : Option (Int32 × zS) := zgd (zin x1 16) (zgd (zin x1 16) (if (σ.1 22 x1.toNatClampNeg) = (0 : Int32) then zgd (zin x2 32) (zb (fn_P_hasBit (σ.1 23 x1.toNatClampNeg) (σ.1 8 x2.toNatClampNeg) σ) (fun r82 s82 => if r82 = 0 then some ((1 : Int32), s82) else some ((0 : Int32), s82))) else if (σ.1 22 x1.toNatClampNeg) = (1 : Int32) then zgd (zin x2 32) (zb (fn_P_hasBit (σ.1 23 x1.toNatClampNeg) (σ.1 9 x2.toNatClampNeg) σ) (fun r104 s104 => if r104 = 0 then some ((1 : Int32), s104) else some ((0 : Int32), s104))) else if (σ.1 22 x1.toNatClampNeg) = (2 : Int32) then zb (fn_P_usesBranchOutside x2 (σ.1 23 x1.toNatClampNeg) σ) (fun r119 s119 => zgd (zbo r119) (some (r119, s119))) else if (σ.1 22 x1.toNatClampNeg) = (3 : Int32) then zb (fn_P_usesReviewedBelow x2 (σ.1 23 x1.toNatClampNeg) σ) (fun r126 s126 => zgd (zbo r126) (some (r126, s126))) else if (σ.1 22 x1.toNatClampNeg) = (4 : Int32) then zb (fn_P_usesFetchedUntold x2 σ) (fun r132 s132 => zgd (zbo r132) (some (r132, s132))) else if (σ.1 22 x1.toNatClampNeg) = (5 : Int32) then zb (fn_A_missingPlace x2 (0 : Int32) σ) (fun r142 s142 => if r142 = (-1 : Int32) then some ((0 : Int32), s142) else some ((1 : Int32), s142)) else if (σ.1 22 x1.toNatClampNeg) = (6 : Int32) then zb (fn_A_needsLaterBy x2 (σ.1 23 x1.toNatClampNeg) σ) (fun r161 s161 => zgd (zbo r161) (some (r161, s161))) else if (σ.1 22 x1.toNatClampNeg) = (7 : Int32) then zb (fn_A_clashesWithAny x2 σ) (fun r170 s170 => zgd (zbo r170) (some (r170, s170))) else if (σ.1 22 x1.toNatClampNeg) = (8 : Int32) then zb (fn_A_restsOnNothing x2 σ) (fun r179 s179 => zgd (zbo r179) (some (r179, s179))) else if (σ.1 22 x1.toNatClampNeg) = (9 : Int32) then zb (fn_Q_walk_c x2 σ) (fun r192 s192 => if (σ.1 23 x1.toNatClampNeg) < (s192.1 660 0) then some ((1 : Int32), s192) else some ((0 : Int32), s192)) else some ((0 : Int32), σ)))
set_option maxRecDepth 100000 in
set_option maxHeartbeats 4000000 in
theorem ct_P_isBroken (l : Launch) (D : va_G) (ad : Nat → Nat) (ca : Nat → ClassId) (x1 : Int32) (x2 : Int32) (σ : zS) : zC zemI l y_P_isBroken (Cond.code y_P_isBroken b_P_isBroken 4 (some .boolean) :: zTT) (zrm 4 90) D zcl (zKK D ca) (zwC ad ca) σ [.ref (ad 0), .int x1, .int x2] (fn_P_isBroken x1 x2 σ) := by
  refine zmk_z (tys := zty ca) (by decide) (zKK_m D ca) (fun _ h => h.1) (Nat.le_of_ble_eq_true rfl) (fun V ex hX hR => ?_)
  show zJ V (zgd (zin x1 16) (zgd (zin x1 16) (if (σ.1 22 x1.toNatClampNeg) = (0 : Int32) then zgd (zin x2 32) (zb (fn_P_hasBit (σ.1 23 x1.toNatClampNeg) (σ.1 8 x2.toNatClampNeg) σ) (fun r82 s82 => if r82 = 0 then some ((1 : Int32), s82) else some ((0 : Int32), s82))) else if (σ.1 22 x1.toNatClampNeg) = (1 : Int32) then zgd (zin x2 32) (zb (fn_P_hasBit (σ.1 23 x1.toNatClampNeg) (σ.1 9 x2.toNatClampNeg) σ) (fun r104 s104 => if r104 = 0 then some ((1 : Int32), s104) else some ((0 : Int32), s104))) else if (σ.1 22 x1.toNatClampNeg) = (2 : Int32) then zb (fn_P_usesBranchOutside x2 (σ.1 23 x1.toNatClampNeg) σ) (fun r119 s119 => zgd (zbo r119) (some (r119, s119))) else if (σ.1 22 x1.toNatClampNeg) = (3 : Int32) then zb (fn_P_usesReviewedBelow x2 (σ.1 23 x1.toNatClampNeg) σ) (fun r126 s126 => zgd (zbo r126) (some (r126, s126))) else if (σ.1 22 x1.toNatClampNeg) = (4 : Int32) then zb (fn_P_usesFetchedUntold x2 σ) (fun r132 s132 => zgd (zbo r132) (some (r132, s132))) else if (σ.1 22 x1.toNatClampNeg) = (5 : Int32) then zb (fn_A_missingPlace x2 (0 : Int32) σ) (fun r142 s142 => if r142 = (-1 : Int32) then some ((0 : Int32), s142) else some ((1 : Int32), s142)) else if (σ.1 22 x1.toNatClampNeg) = (6 : Int32) then zb (fn_A_needsLaterBy x2 (σ.1 23 x1.toNatClampNeg) σ) (fun r161 s161 => zgd (zbo r161) (some (r161, s161))) else if (σ.1 22 x1.toNatClampNeg) = (7 : Int32) then zb (fn_A_clashesWithAny x2 σ) (fun r170 s170 => zgd (zbo r170) (some (r170, s170))) else if (σ.1 22 x1.toNatClampNeg) = (8 : Int32) then zb (fn_A_restsOnNothing x2 σ) (fun r179 s179 => zgd (zbo r179) (some (r179, s179))) else if (σ.1 22 x1.toNatClampNeg) = (9 : Int32) then zb (fn_Q_walk_c x2 σ) (fun r192 s192 => if (σ.1 23 x1.toNatClampNeg) < (s192.1 660 0) then some ((1 : Int32), s192) else some ((0 : Int32), s192)) else some ((0 : Int32), σ)))) (zwC ad ca σ ++ ex) 0 [(0, .ref (ad 0)), (1, .int x1), (2, .int x2)] []
  refine z_aload_n (i := 0) hX d_P_isBroken_0 rfl rfl ?_
  refine z_get (C := R_P) (T := F_P) (N := 7) hX in_P 0 rfl rfl 2 (by decide) w_field_P_26_P_2 rfl d_P_isBroken_1 ?_
  refine z_get (C := R_Y) (T := F_Y) (N := 3) hX in_Y 21 rfl rfl 2 (by decide) w_field_P_149_Y_2 rfl d_P_isBroken_4 ?_
  refine z_iload_n (i := 1) hX d_P_isBroken_7 rfl rfl ?_
  refine z_iald hX 23 17 rfl rfl d_P_isBroken_8 ?_
  refine z_istore_n (i := 3) (lv2 := [(3, .int (σ.1 23 x1.toNatClampNeg)), (0, .ref (ad 0)), (1, .int x1), (2, .int x2)]) hX d_P_isBroken_9 rfl (by decide) rfl ?_
  refine z_aload_n (i := 0) hX d_P_isBroken_10 rfl rfl ?_
  refine z_get (C := R_P) (T := F_P) (N := 7) hX in_P 0 rfl rfl 2 (by decide) w_field_P_26_P_2 rfl d_P_isBroken_11 ?_
  refine z_get (C := R_Y) (T := F_Y) (N := 3) hX in_Y 21 rfl rfl 1 (by decide) w_field_P_152_Y_1 rfl d_P_isBroken_14 ?_
  refine z_iload_n (i := 1) hX d_P_isBroken_17 rfl rfl ?_
  refine z_iald hX 22 16 rfl rfl d_P_isBroken_18 ?_
  refine z_by (fun c19_0 => ?_) (fun c19_0 => ?_)
  · refine z_tabIn (tgt := 72) (off := 53) hX d_P_isBroken_19 (by rw [c19_0]; decide) (by rw [c19_0]; decide) (by rw [c19_0]; rfl) (by decide) ?_
    refine z_iload_n (i := 3) hX d_P_isBroken_72 rfl rfl ?_
    refine z_aload_n (i := 0) hX d_P_isBroken_73 rfl rfl ?_
    refine z_get (C := R_P) (T := F_P) (N := 7) hX in_P 0 rfl rfl 1 (by decide) w_field_P_19_P_1 rfl d_P_isBroken_74 ?_
    refine z_get (C := R_A) (T := F_A) (N := 11) hX in_A 6 rfl rfl 2 (by decide) w_field_P_127_A_2 rfl d_P_isBroken_77 ?_
    refine z_iload_n (i := 2) hX d_P_isBroken_80 rfl rfl ?_
    refine z_iald hX 8 5 rfl rfl d_P_isBroken_81 ?_
    refine z_callSi (wl := zwC ad ca) (n := 2) (rest := []) hX [.int (σ.1 23 x1.toNatClampNeg), .int (σ.1 8 x2.toNatClampNeg)] (ct_P_hasBit l D ca (zwC ad ca) (σ.1 23 x1.toNatClampNeg) (σ.1 8 x2.toNatClampNeg) σ) gS_P_155 ⟨rfl, rfl⟩ ⟨by decide, by decide⟩ (by decide +kernel) rfl rfl (Nat.le_of_ble_eq_true rfl) d_P_isBroken_82 (fun r82 s82 => ?_)
    refine z_if_ne (tgt := 92) hX d_P_isBroken_85 (by decide) (fun c85 => ?_) (fun c85 => ?_)
    · refine z_iconst (v := 1) hX d_P_isBroken_88 (by decide) ?_
      refine z_goto (tgt := 93) hX d_P_isBroken_89 (by decide) ?_
      exact z_zret hR rfl d_P_isBroken_93
    · refine z_iconst (v := 0) hX d_P_isBroken_92 (by decide) ?_
      exact z_zret hR rfl d_P_isBroken_93
  · refine z_by (fun c19_1 => ?_) (fun c19_1 => ?_)
    · refine z_tabIn (tgt := 94) (off := 75) hX d_P_isBroken_19 (by rw [c19_1]; decide) (by rw [c19_1]; decide) (by rw [c19_1]; rfl) (by decide) ?_
      refine z_iload_n (i := 3) hX d_P_isBroken_94 rfl rfl ?_
      refine z_aload_n (i := 0) hX d_P_isBroken_95 rfl rfl ?_
      refine z_get (C := R_P) (T := F_P) (N := 7) hX in_P 0 rfl rfl 1 (by decide) w_field_P_19_P_1 rfl d_P_isBroken_96 ?_
      refine z_get (C := R_A) (T := F_A) (N := 11) hX in_A 6 rfl rfl 3 (by decide) w_field_P_130_A_3 rfl d_P_isBroken_99 ?_
      refine z_iload_n (i := 2) hX d_P_isBroken_102 rfl rfl ?_
      refine z_iald hX 9 6 rfl rfl d_P_isBroken_103 ?_
      refine z_callSi (wl := zwC ad ca) (n := 2) (rest := []) hX [.int (σ.1 23 x1.toNatClampNeg), .int (σ.1 9 x2.toNatClampNeg)] (ct_P_hasBit l D ca (zwC ad ca) (σ.1 23 x1.toNatClampNeg) (σ.1 9 x2.toNatClampNeg) σ) gS_P_155 ⟨rfl, rfl⟩ ⟨by decide, by decide⟩ (by decide +kernel) rfl rfl (Nat.le_of_ble_eq_true rfl) d_P_isBroken_104 (fun r104 s104 => ?_)
      refine z_if_ne (tgt := 114) hX d_P_isBroken_107 (by decide) (fun c107 => ?_) (fun c107 => ?_)
      · refine z_iconst (v := 1) hX d_P_isBroken_110 (by decide) ?_
        refine z_goto (tgt := 115) hX d_P_isBroken_111 (by decide) ?_
        exact z_zret hR rfl d_P_isBroken_115
      · refine z_iconst (v := 0) hX d_P_isBroken_114 (by decide) ?_
        exact z_zret hR rfl d_P_isBroken_115
    · refine z_by (fun c19_2 => ?_) (fun c19_2 => ?_)
      · refine z_tabIn (tgt := 116) (off := 97) hX d_P_isBroken_19 (by rw [c19_2]; decide) (by rw [c19_2]; decide) (by rw [c19_2]; rfl) (by decide) ?_
        refine z_aload_n (i := 0) hX d_P_isBroken_116 rfl rfl ?_
        refine z_iload_n (i := 2) hX d_P_isBroken_117 rfl rfl ?_
        refine z_iload_n (i := 3) hX d_P_isBroken_118 rfl rfl ?_
        refine z_callVi (wl := zwC ad ca) (C := R_P) (n := 2) (rest := []) hX [.int x2, .int (σ.1 23 x1.toNatClampNeg)] (ct_P_usesBranchOutside l D ad ca x2 (σ.1 23 x1.toNatClampNeg) σ) gV_P_158 ⟨rfl, rfl⟩ ⟨by decide, by decide⟩ (by decide +kernel) rfl 0 rfl rfl rfl rfl (Nat.le_of_ble_eq_true rfl) d_P_isBroken_119 (fun r119 s119 => ?_)
        exact z_zretg hR d_P_isBroken_122
      · refine z_by (fun c19_3 => ?_) (fun c19_3 => ?_)
        · refine z_tabIn (tgt := 123) (off := 104) hX d_P_isBroken_19 (by rw [c19_3]; decide) (by rw [c19_3]; decide) (by rw [c19_3]; rfl) (by decide) ?_
          refine z_aload_n (i := 0) hX d_P_isBroken_123 rfl rfl ?_
          refine z_iload_n (i := 2) hX d_P_isBroken_124 rfl rfl ?_
          refine z_iload_n (i := 3) hX d_P_isBroken_125 rfl rfl ?_
          refine z_callVi (wl := zwC ad ca) (C := R_P) (n := 2) (rest := []) hX [.int x2, .int (σ.1 23 x1.toNatClampNeg)] (ct_P_usesReviewedBelow l D ad ca x2 (σ.1 23 x1.toNatClampNeg) σ) gV_P_161 ⟨rfl, rfl⟩ ⟨by decide, by decide⟩ (by decide +kernel) rfl 0 rfl rfl rfl rfl (Nat.le_of_ble_eq_true rfl) d_P_isBroken_126 (fun r126 s126 => ?_)
          exact z_zretg hR d_P_isBroken_129
        · refine z_by (fun c19_4 => ?_) (fun c19_4 => ?_)
          · refine z_tabIn (tgt := 130) (off := 111) hX d_P_isBroken_19 (by rw [c19_4]; decide) (by rw [c19_4]; decide) (by rw [c19_4]; rfl) (by decide) ?_
            refine z_aload_n (i := 0) hX d_P_isBroken_130 rfl rfl ?_
            refine z_iload_n (i := 2) hX d_P_isBroken_131 rfl rfl ?_
            refine z_callVi (wl := zwC ad ca) (C := R_P) (n := 1) (rest := []) hX [.int x2] (ct_P_usesFetchedUntold l D ad ca x2 σ) gV_P_164 ⟨rfl, rfl⟩ ⟨by decide, by decide⟩ (by decide +kernel) rfl 0 rfl rfl rfl rfl (Nat.le_of_ble_eq_true rfl) d_P_isBroken_132 (fun r132 s132 => ?_)
            exact z_zretg hR d_P_isBroken_135
          · refine z_by (fun c19_5 => ?_) (fun c19_5 => ?_)
            · refine z_tabIn (tgt := 136) (off := 117) hX d_P_isBroken_19 (by rw [c19_5]; decide) (by rw [c19_5]; decide) (by rw [c19_5]; rfl) (by decide) ?_
              refine z_aload_n (i := 0) hX d_P_isBroken_136 rfl rfl ?_
              refine z_get (C := R_P) (T := F_P) (N := 7) hX in_P 0 rfl rfl 1 (by decide) w_field_P_19_P_1 rfl d_P_isBroken_137 ?_
              refine z_iload_n (i := 2) hX d_P_isBroken_140 rfl rfl ?_
              refine z_iconst (v := 0) hX d_P_isBroken_141 (by decide) ?_
              refine z_callVi (wl := zwC ad ca) (C := R_A) (n := 2) (rest := []) hX [.int x2, .int (0 : Int32)] (ct_A_missingPlace l D ad ca x2 (0 : Int32) σ) gV_P_112 ⟨rfl, rfl⟩ ⟨by decide, by decide⟩ (by decide +kernel) rfl 6 rfl rfl rfl rfl (Nat.le_of_ble_eq_true rfl) d_P_isBroken_142 (fun r142 s142 => ?_)
              refine z_iconst (v := -1) hX d_P_isBroken_145 (by decide) ?_
              refine z_icmp_eq (tgt := 153) hX d_P_isBroken_146 (by decide) (fun c146 => ?_) (fun c146 => ?_)
              · refine z_iconst (v := 0) hX d_P_isBroken_153 (by decide) ?_
                exact z_zret hR rfl d_P_isBroken_154
              · refine z_iconst (v := 1) hX d_P_isBroken_149 (by decide) ?_
                refine z_goto (tgt := 154) hX d_P_isBroken_150 (by decide) ?_
                exact z_zret hR rfl d_P_isBroken_154
            · refine z_by (fun c19_6 => ?_) (fun c19_6 => ?_)
              · refine z_tabIn (tgt := 155) (off := 136) hX d_P_isBroken_19 (by rw [c19_6]; decide) (by rw [c19_6]; decide) (by rw [c19_6]; rfl) (by decide) ?_
                refine z_aload_n (i := 0) hX d_P_isBroken_155 rfl rfl ?_
                refine z_get (C := R_P) (T := F_P) (N := 7) hX in_P 0 rfl rfl 1 (by decide) w_field_P_19_P_1 rfl d_P_isBroken_156 ?_
                refine z_iload_n (i := 2) hX d_P_isBroken_159 rfl rfl ?_
                refine z_iload_n (i := 3) hX d_P_isBroken_160 rfl rfl ?_
                refine z_callVi (wl := zwC ad ca) (C := R_A) (n := 2) (rest := []) hX [.int x2, .int (σ.1 23 x1.toNatClampNeg)] (ct_A_needsLaterBy l D ad ca x2 (σ.1 23 x1.toNatClampNeg) σ) gV_P_167 ⟨rfl, rfl⟩ ⟨by decide, by decide⟩ (by decide +kernel) rfl 6 rfl rfl rfl rfl (Nat.le_of_ble_eq_true rfl) d_P_isBroken_161 (fun r161 s161 => ?_)
                exact z_zretg hR d_P_isBroken_164
              · refine z_by (fun c19_7 => ?_) (fun c19_7 => ?_)
                · refine z_tabIn (tgt := 165) (off := 146) hX d_P_isBroken_19 (by rw [c19_7]; decide) (by rw [c19_7]; decide) (by rw [c19_7]; rfl) (by decide) ?_
                  refine z_aload_n (i := 0) hX d_P_isBroken_165 rfl rfl ?_
                  refine z_get (C := R_P) (T := F_P) (N := 7) hX in_P 0 rfl rfl 1 (by decide) w_field_P_19_P_1 rfl d_P_isBroken_166 ?_
                  refine z_iload_n (i := 2) hX d_P_isBroken_169 rfl rfl ?_
                  refine z_callVi (wl := zwC ad ca) (C := R_A) (n := 1) (rest := []) hX [.int x2] (ct_A_clashesWithAny l D ad ca x2 σ) gV_P_170 ⟨rfl, rfl⟩ ⟨by decide, by decide⟩ (by decide +kernel) rfl 6 rfl rfl rfl rfl (Nat.le_of_ble_eq_true rfl) d_P_isBroken_170 (fun r170 s170 => ?_)
                  exact z_zretg hR d_P_isBroken_173
                · refine z_by (fun c19_8 => ?_) (fun c19_8 => ?_)
                  · refine z_tabIn (tgt := 174) (off := 155) hX d_P_isBroken_19 (by rw [c19_8]; decide) (by rw [c19_8]; decide) (by rw [c19_8]; rfl) (by decide) ?_
                    refine z_aload_n (i := 0) hX d_P_isBroken_174 rfl rfl ?_
                    refine z_get (C := R_P) (T := F_P) (N := 7) hX in_P 0 rfl rfl 1 (by decide) w_field_P_19_P_1 rfl d_P_isBroken_175 ?_
                    refine z_iload_n (i := 2) hX d_P_isBroken_178 rfl rfl ?_
                    refine z_callVi (wl := zwC ad ca) (C := R_A) (n := 1) (rest := []) hX [.int x2] (ct_A_restsOnNothing l D ad ca x2 σ) gV_P_173 ⟨rfl, rfl⟩ ⟨by decide, by decide⟩ (by decide +kernel) rfl 6 rfl rfl rfl rfl (Nat.le_of_ble_eq_true rfl) d_P_isBroken_179 (fun r179 s179 => ?_)
                    exact z_zretg hR d_P_isBroken_182
                  · refine z_by (fun c19_9 => ?_) (fun c19_9 => ?_)
                    · refine z_tabIn (tgt := 183) (off := 164) hX d_P_isBroken_19 (by rw [c19_9]; decide) (by rw [c19_9]; decide) (by rw [c19_9]; rfl) (by decide) ?_
                      refine z_aload_n (i := 0) hX d_P_isBroken_183 rfl rfl ?_
                      refine z_get (C := R_P) (T := F_P) (N := 7) hX in_P 0 rfl rfl 5 (by decide) w_field_P_40_P_5 rfl d_P_isBroken_184 ?_
                      refine z_aload_n (i := 0) hX d_P_isBroken_187 rfl rfl ?_
                      refine z_get (C := R_P) (T := F_P) (N := 7) hX in_P 0 rfl rfl 1 (by decide) w_field_P_19_P_1 rfl d_P_isBroken_188 ?_
                      refine z_iload_n (i := 2) hX d_P_isBroken_191 rfl rfl ?_
                      refine z_callVv (wl := zwC ad ca) (C := R_Q) (n := 2) (rest := []) hX [.ref (ad 6), .int x2] (ct_Q_walk_c l D ad ca x2 σ) gV_P_89 ⟨rfl, rfl⟩ ⟨by decide, by decide⟩ (by decide +kernel) rfl 28 rfl rfl rfl rfl (Nat.le_of_ble_eq_true rfl) d_P_isBroken_192 (fun r192 s192 => ?_)
                      refine z_aload_n (i := 0) hX d_P_isBroken_195 rfl rfl ?_
                      refine z_get (C := R_P) (T := F_P) (N := 7) hX in_P 0 rfl rfl 5 (by decide) w_field_P_40_P_5 rfl d_P_isBroken_196 ?_
                      refine z_get (C := R_Q) (T := F_Q) (N := 3) hX in_Q 28 rfl rfl 0 (by decide) w_field_P_93_Q_0 rfl d_P_isBroken_199 ?_
                      refine z_iload_n (i := 3) hX d_P_isBroken_202 rfl rfl ?_
                      refine z_icmp_le (tgt := 210) hX d_P_isBroken_203 (by decide) (fun c203 => ?_) (fun c203 => ?_)
                      · refine z_iconst (v := 1) hX d_P_isBroken_206 (by decide) ?_
                        refine z_goto (tgt := 211) hX d_P_isBroken_207 (by decide) ?_
                        exact z_zret hR rfl d_P_isBroken_211
                      · refine z_iconst (v := 0) hX d_P_isBroken_210 (by decide) ?_
                        exact z_zret hR rfl d_P_isBroken_211
                    · refine z_tabOut (tgt := 212) hX d_P_isBroken_19 (by have e0 : (σ.1 22 x1.toNatClampNeg).toInt ≠ 0 := fun h => c19_0 (Int32.toInt_inj.mp (h.trans (by decide))); have e1 : (σ.1 22 x1.toNatClampNeg).toInt ≠ 1 := fun h => c19_1 (Int32.toInt_inj.mp (h.trans (by decide))); have e2 : (σ.1 22 x1.toNatClampNeg).toInt ≠ 2 := fun h => c19_2 (Int32.toInt_inj.mp (h.trans (by decide))); have e3 : (σ.1 22 x1.toNatClampNeg).toInt ≠ 3 := fun h => c19_3 (Int32.toInt_inj.mp (h.trans (by decide))); have e4 : (σ.1 22 x1.toNatClampNeg).toInt ≠ 4 := fun h => c19_4 (Int32.toInt_inj.mp (h.trans (by decide))); have e5 : (σ.1 22 x1.toNatClampNeg).toInt ≠ 5 := fun h => c19_5 (Int32.toInt_inj.mp (h.trans (by decide))); have e6 : (σ.1 22 x1.toNatClampNeg).toInt ≠ 6 := fun h => c19_6 (Int32.toInt_inj.mp (h.trans (by decide))); have e7 : (σ.1 22 x1.toNatClampNeg).toInt ≠ 7 := fun h => c19_7 (Int32.toInt_inj.mp (h.trans (by decide))); have e8 : (σ.1 22 x1.toNatClampNeg).toInt ≠ 8 := fun h => c19_8 (Int32.toInt_inj.mp (h.trans (by decide))); have e9 : (σ.1 22 x1.toNatClampNeg).toInt ≠ 9 := fun h => c19_9 (Int32.toInt_inj.mp (h.trans (by decide))); omega) (by decide) ?_
                      refine z_iconst (v := 0) hX d_P_isBroken_212 (by decide) ?_
                      exact z_zret hR rfl d_P_isBroken_213
def fn_P_firstBrokenBy_2 : Nat → Int32 → Int32 → zS → Option (Int32 × zS)
  | 0, _, _, _ => none
  | n + 1, x1, x2, σ => if x2 < (σ.1 520 0) then zb (fn_P_isBroken x2 x1 σ) (fun r16 s16 => if r16 = 0 then fn_P_firstBrokenBy_2 n x1 (x2 + 1) s16 else some (x2, s16)) else some ((-1 : Int32), σ)
set_option maxRecDepth 100000 in
set_option maxHeartbeats 4000000 in
theorem bk_P_firstBrokenBy_2 (l : Launch) (D : va_G) (ad : Nat → Nat) (ca : Nat → ClassId) {V : zV Int32} {ex : va_W} (hX : zIs V l b_P_firstBrokenBy R_P zTT (zKK D ca) D zcl (zty ca) 3 (zrm 5 113)) (hR : zRi V b_P_firstBrokenBy (zwC ad ca) ex) : ∀ (n : Nat) (x1 : Int32) (x2 : Int32) (σ : zS), zJ V (fn_P_firstBrokenBy_2 n x1 x2 σ) (zwC ad ca σ ++ ex) 2 [(0, .ref (ad 0)), (1, .int x1), (2, .int x2)] [] := by
  intro n
  induction n with
  | zero => intros; exact z_none
  | succ n ih =>
    intro x1 x2 σ
    show zJ V (if x2 < (σ.1 520 0) then zb (fn_P_isBroken x2 x1 σ) (fun r16 s16 => if r16 = 0 then fn_P_firstBrokenBy_2 n x1 (x2 + 1) s16 else some (x2, s16)) else some ((-1 : Int32), σ)) _ _ _ _
    refine z_iload_n (i := 2) hX d_P_firstBrokenBy_2 rfl rfl ?_
    refine z_aload_n (i := 0) hX d_P_firstBrokenBy_3 rfl rfl ?_
    refine z_get (C := R_P) (T := F_P) (N := 7) hX in_P 0 rfl rfl 2 (by decide) w_field_P_26_P_2 rfl d_P_firstBrokenBy_4 ?_
    refine z_get (C := R_Y) (T := F_Y) (N := 3) hX in_Y 21 rfl rfl 0 (by decide) w_field_P_148_Y_0 rfl d_P_firstBrokenBy_7 ?_
    refine z_icmp_ge (tgt := 30) hX d_P_firstBrokenBy_10 (by decide) (fun c10 => ?_) (fun c10 => ?_)
    · refine z_aload_n (i := 0) hX d_P_firstBrokenBy_13 rfl rfl ?_
      refine z_iload_n (i := 2) hX d_P_firstBrokenBy_14 rfl rfl ?_
      refine z_iload_n (i := 1) hX d_P_firstBrokenBy_15 rfl rfl ?_
      refine z_callVi (wl := zwC ad ca) (C := R_P) (n := 2) (rest := []) hX [.int x2, .int x1] (ct_P_isBroken l D ad ca x2 x1 σ) gV_P_105 ⟨rfl, rfl⟩ ⟨by decide, by decide⟩ (by decide +kernel) rfl 0 rfl rfl rfl rfl (Nat.le_of_ble_eq_true rfl) d_P_firstBrokenBy_16 (fun r16 s16 => ?_)
      refine z_if_eq (tgt := 24) hX d_P_firstBrokenBy_19 (by decide) (fun c19 => ?_) (fun c19 => ?_)
      · refine z_iinc (v := x2 + 1) (lv2 := [(2, .int (x2 + 1)), (0, .ref (ad 0)), (1, .int x1)]) hX d_P_firstBrokenBy_24 2 rfl (by first | rfl | decide) (by decide) rfl ?_
        refine z_goto (tgt := 2) hX d_P_firstBrokenBy_27 (by decide) ?_
        refine z_lv hX [1, 2, 0] (lv2 := [(0, .ref (ad 0)), (1, .int x1), (2, .int (x2 + 1))]) rfl ?_
        exact ih _ _ _
      · refine z_iload_n (i := 2) hX d_P_firstBrokenBy_22 rfl rfl ?_
        exact z_iret hR d_P_firstBrokenBy_23
    · refine z_iconst (v := -1) hX d_P_firstBrokenBy_30 (by decide) ?_
      exact z_iret hR d_P_firstBrokenBy_31
def fn_P_firstBrokenBy (x1 : Int32) (σ : zS) : Option (Int32 × zS) := fn_P_firstBrokenBy_2 100 x1 (0 : Int32) σ
set_option maxRecDepth 100000 in
set_option maxHeartbeats 4000000 in
theorem ct_P_firstBrokenBy (l : Launch) (D : va_G) (ad : Nat → Nat) (ca : Nat → ClassId) (x1 : Int32) (σ : zS) : zC zemI l y_P_firstBrokenBy (Cond.code y_P_firstBrokenBy b_P_firstBrokenBy 3 (some .int) :: zTT) (zrm 5 113) D zcl (zKK D ca) (zwC ad ca) σ [.ref (ad 0), .int x1] (fn_P_firstBrokenBy x1 σ) := by
  refine zmk_i (tys := zty ca) (by decide) (zKK_m D ca) (fun _ h => h.1) (Nat.le_of_ble_eq_true rfl) (fun V ex hX hR => ?_)
  show zJ V (fn_P_firstBrokenBy_2 100 x1 (0 : Int32) σ) (zwC ad ca σ ++ ex) 0 [(0, .ref (ad 0)), (1, .int x1)] []
  refine z_iconst (v := 0) hX d_P_firstBrokenBy_0 (by decide) ?_
  refine z_istore_n (i := 2) (lv2 := [(2, .int (0 : Int32)), (0, .ref (ad 0)), (1, .int x1)]) hX d_P_firstBrokenBy_1 rfl (by decide) rfl ?_
  refine z_lv hX [1, 2, 0] (lv2 := [(0, .ref (ad 0)), (1, .int x1), (2, .int (0 : Int32))]) rfl ?_
  exact bk_P_firstBrokenBy_2 l D ad ca hX hR 100 _ _ _
